set_option maxRecDepth 100000 in
set_option maxHeartbeats 4000000 in
theorem k_X11_lean_92 {p : Program} {l : Launch} {e : Env} {s : State} {m : MethodId} {args : Array Value} {below : List Frame} {meth : Method} {c : Code} {D : va_G} {cy : Nat → ClassId} {z0 : Nat} {ad : Nat → Nat} {X : va_W} {u : Nat × Nat} (hC : cx_C p s m args meth c cX11_lean "RhymedThen" (Cond.code yX11_lean cX11_lean 6 (some .int)) 6 (some .int)) {z : (Int32 × mm_M)} {c0 : Nat} {x2 : Int32} {x3 : Int32} {x4 : Int32} {x5 : Int32} {M : mm_M} (hc0 : c0 ≤ M.2.2) {q42 : Int32 → Int32 → Int32 → Int32 → mm_M → Option (Int32 × mm_M)} (hq42 : ∀ (x2 : Int32) (x3 : Int32) (x4 : Int32) (x5 : Int32) (M : mm_M) (u : Nat × Nat) (H : Heap) (locs : List Loc) (ls : Array Slot), c0 ≤ M.2.2 → q42 x2 x3 x4 x5 M = some z → wd_in cx_T D cy z0 ad u M X s H locs → lv_has ls 6 [(0, .ref (ad 0)), (2, .int x2), (3, .int x3), (4, .int x4), (5, .int x5)] → W p l e { frames := 8, cells := 2 * (z.2.2.2 - c0), slots := 52 * (z.2.2.2 - c0), locals := 238 } s m args below meth c H locs (2 * (M.2.2 - c0)) (52 * (M.2.2 - c0)) (MQ below (aq_i cx_T D cy z0 ad X z.1 z.2) args s (2 * (z.2.2.2 - c0)) (52 * (z.2.2.2 - c0)) (fun q => z0 ≤ q)) (F0 m 42 ls [])) (hm42 : ∀ (x2 : Int32) (x3 : Int32) (x4 : Int32) (x5 : Int32) (M : mm_M), q42 x2 x3 x4 x5 M = some z → M.2.2 ≤ z.2.2.2) (hf : f_X11_lean_92 q42 x2 x3 x4 x5 M = some z) {H : Heap} {locs : List Loc} (hw : wd_in cx_T D cy z0 ad u M X s H locs) {ls : Array Slot} (hl : lv_has ls 6 [(0, .ref (ad 0)), (2, .int x2), (3, .int x3), (4, .int x4), (5, .int x5)]) : W p l e { frames := 8, cells := 2 * (z.2.2.2 - c0), slots := 52 * (z.2.2.2 - c0), locals := 238 } s m args below meth c H locs (2 * (M.2.2 - c0)) (52 * (M.2.2 - c0)) (MQ below (aq_i cx_T D cy z0 ad X z.1 z.2) args s (2 * (z.2.2.2 - c0)) (52 * (z.2.2.2 - c0)) (fun q => z0 ≤ q)) (F0 m 92 ls []) := by
  have hx := hC.1
  have hb := hC.2.1
  have hmz : M.2.2 ≤ z.2.2.2 := mo_X11_lean_92 hm42 hf
  unfold f_X11_lean_92 at hf
  obtain ⟨y13, ey13, hf⟩ := sq_e hf
  refine lv_iinc (v := y13) (lv' := [(5, .int y13), (0, .ref (ad 0)), (2, .int x2), (3, .int x3), (4, .int x4)]) hx hb dX11_lean_92 hl (k := 4) rfl (by rw [ey13]; rfl) (by decide) rfl (fun ls hl => ?_)
  refine lv_goto (tgt := 42) hx hb dX11_lean_95 (by decide) ?_
  refine W.widen (k := 2 * (M.2.2 - c0)) (n := 52 * (M.2.2 - c0)) (by omega) (by omega) ?_
  exact hq42 _ _ _ _ _ _ _ _ _ (by omega) hf hw (lv_sub hl [1, 2, 3, 4, 0] rfl)
set_option maxRecDepth 100000 in
set_option maxHeartbeats 4000000 in
theorem k_X11_lean_42 {p : Program} {l : Launch} {e : Env} {s : State} {m : MethodId} {args : Array Value} {below : List Frame} {meth : Method} {c : Code} {D : va_G} {cy : Nat → ClassId} {z0 : Nat} {ad : Nat → Nat} {X : va_W} {u : Nat × Nat} (hC : cx_C p s m args meth c cX11_lean "RhymedThen" (Cond.code yX11_lean cX11_lean 6 (some .int)) 6 (some .int)) {z : (Int32 × mm_M)} {c0 : Nat} {x2 : Int32} {x3 : Int32} {x4 : Int32} {x5 : Int32} {M : mm_M} (hc0 : c0 ≤ M.2.2) {q42 : Int32 → Int32 → Int32 → Int32 → mm_M → Option (Int32 × mm_M)} (hq42 : ∀ (x2 : Int32) (x3 : Int32) (x4 : Int32) (x5 : Int32) (M : mm_M) (u : Nat × Nat) (H : Heap) (locs : List Loc) (ls : Array Slot), c0 ≤ M.2.2 → q42 x2 x3 x4 x5 M = some z → wd_in cx_T D cy z0 ad u M X s H locs → lv_has ls 6 [(0, .ref (ad 0)), (2, .int x2), (3, .int x3), (4, .int x4), (5, .int x5)] → W p l e { frames := 8, cells := 2 * (z.2.2.2 - c0), slots := 52 * (z.2.2.2 - c0), locals := 238 } s m args below meth c H locs (2 * (M.2.2 - c0)) (52 * (M.2.2 - c0)) (MQ below (aq_i cx_T D cy z0 ad X z.1 z.2) args s (2 * (z.2.2.2 - c0)) (52 * (z.2.2.2 - c0)) (fun q => z0 ≤ q)) (F0 m 42 ls [])) (hm42 : ∀ (x2 : Int32) (x3 : Int32) (x4 : Int32) (x5 : Int32) (M : mm_M), q42 x2 x3 x4 x5 M = some z → M.2.2 ≤ z.2.2.2) (hf : f_X11_lean_42 q42 x2 x3 x4 x5 M = some z) {H : Heap} {locs : List Loc} (hw : wd_in cx_T D cy z0 ad u M X s H locs) {ls : Array Slot} (hl : lv_has ls 6 [(0, .ref (ad 0)), (2, .int x2), (3, .int x3), (4, .int x4), (5, .int x5)]) : W p l e { frames := 8, cells := 2 * (z.2.2.2 - c0), slots := 52 * (z.2.2.2 - c0), locals := 238 } s m args below meth c H locs (2 * (M.2.2 - c0)) (52 * (M.2.2 - c0)) (MQ below (aq_i cx_T D cy z0 ad X z.1 z.2) args s (2 * (z.2.2.2 - c0)) (52 * (z.2.2.2 - c0)) (fun q => z0 ≤ q)) (F0 m 42 ls []) := by
  have hx := hC.1
  have hb := hC.2.1
  have hmz : M.2.2 ≤ z.2.2.2 := mo_X11_lean_42 hm42 hf
  unfold f_X11_lean_42 at hf
  refine lv_iload hx hb dX11_lean_42 (lv_at hl 4 rfl) ?_
  refine lv_aload_n hx hb dX11_lean_44 rfl (lv_at hl 0 rfl) ?_
  refine rg_p hC hw 0 (Nat.le_of_ble_eq_true rfl) rfl fd_X11_3 wf_X11_35 (q := 14) rfl dX11_lean_45 ?_
  refine rg_i hC hw 14 (Nat.le_of_ble_eq_true rfl) rfl fd_X3_2 wf_X11_144 dX11_lean_48 ?_
  refine lv_icmp_ge (tgt := 98) hx hb dX11_lean_51 (by decide) (fun c7 => ?_) (fun c7 => ?_)
  · rw [if_pos c7] at hf
    refine lv_iload hx hb dX11_lean_98 (lv_at hl 3 rfl) ?_
    refine W.widen (k := 2 * (z.2.2.2 - c0)) (n := 52 * (z.2.2.2 - c0)) (by omega) (by omega) ?_
    have hz := Option.some.inj hf
    subst hz
    exact rta_i hC hw dX11_lean_100
  · rw [if_neg c7] at hf
    refine lv_aload_n hx hb dX11_lean_54 rfl (lv_at hl 0 rfl) ?_
    refine rg_p hC hw 0 (Nat.le_of_ble_eq_true rfl) rfl fd_X11_4 wf_X11_44 (q := 19) rfl dX11_lean_55 ?_
    refine lv_iload hx hb dX11_lean_58 (lv_at hl 4 rfl) ?_
    obtain ⟨z8, ez8, hf⟩ := bd_e hf
    refine clc_Vi hC hw (c_X6_failingBy ez8) hd_X6_failingBy cw_X11_305 (Nat.le_of_ble_eq_true rfl) rfl rfl (rest := []) hl.1 rfl (Nat.le_of_ble_eq_true rfl) ⟨Nat.le_of_ble_eq_true rfl, Nat.le_of_ble_eq_true rfl⟩ ⟨(show 2 * (M.2.2 - c0) ≤ 2 * (z.2.2.2 - c0) by omega), (show 52 * (M.2.2 - c0) ≤ 52 * (z.2.2.2 - c0) by omega)⟩ rfl dX11_lean_60 (fun H locs hw => ?_)
    refine lv_iload_n hx hb dX11_lean_63 rfl (lv_at hl 2 rfl) ?_
    refine lv_iconst (v := (-1)) hx hb dX11_lean_64 (by decide) ?_
    refine lv_ixor hx hb dX11_lean_65 ?_
    refine lv_iand hx hb dX11_lean_66 ?_
    refine lv_if_ne (tgt := 92) hx hb dX11_lean_67 (by decide) (fun c9 => ?_) (fun c9 => ?_)
    · rw [if_neg c9] at hf
      refine W.widen (k := 2 * (M.2.2 - c0)) (n := 52 * (M.2.2 - c0)) (by omega) (by omega) ?_
      exact k_X11_lean_92 hC (by omega) hq42 hm42 hf hw (lv_sub hl [0, 1, 2, 3, 4] rfl)
    · rw [if_pos c9] at hf
      refine lv_iload hx hb dX11_lean_70 (lv_at hl 3 rfl) ?_
      refine lv_aload_n hx hb dX11_lean_72 rfl (lv_at hl 0 rfl) ?_
      refine rg_p hC hw 0 (Nat.le_of_ble_eq_true rfl) rfl fd_X11_4 wf_X11_44 (q := 19) rfl dX11_lean_73 ?_
      refine lv_iload hx hb dX11_lean_76 (lv_at hl 4 rfl) ?_
      obtain ⟨z10, ez10, hf⟩ := bd_e hf
      refine clc_Vi hC hw (c_X6_heldBy ez10) hd_X6_heldBy cw_X11_289 (Nat.le_of_ble_eq_true rfl) rfl rfl (rest := [.int x4]) hl.1 rfl (Nat.le_of_ble_eq_true rfl) ⟨Nat.le_of_ble_eq_true rfl, Nat.le_of_ble_eq_true rfl⟩ ⟨(show 2 * (M.2.2 - c0) ≤ 2 * (z.2.2.2 - c0) by omega), (show 52 * (M.2.2 - c0) ≤ 52 * (z.2.2.2 - c0) by omega)⟩ rfl dX11_lean_78 (fun H locs hw => ?_)
      refine lv_iload_n hx hb dX11_lean_81 rfl (lv_at hl 2 rfl) ?_
      refine lv_iand hx hb dX11_lean_82 ?_
      obtain ⟨z11, ez11, hf⟩ := sq_e hf
      refine clc_Si hC hw (c_J6_bitCount_0f7a4 ez11.symm) hd_J6_bitCount_0f7a4 cw_X11_308 (rest := [.int x4]) hl.1 rfl (Nat.le_of_ble_eq_true rfl) ⟨Nat.le_of_ble_eq_true rfl, Nat.le_of_ble_eq_true rfl⟩ ⟨(show 2 * (M.2.2 - c0) ≤ 2 * (z.2.2.2 - c0) by omega), (show 52 * (M.2.2 - c0) ≤ 52 * (z.2.2.2 - c0) by omega)⟩ rfl dX11_lean_83 (fun H locs hw => ?_)
      refine lv_iload_n hx hb dX11_lean_86 rfl (lv_at hl 1 rfl) ?_
      obtain ⟨z12, ez12, hf⟩ := sq_e hf
      refine clc_Si hC hw (c_X11_further ez12.symm) hd_X11_further cw_X11_299 (rest := []) hl.1 rfl (Nat.le_of_ble_eq_true rfl) ⟨Nat.le_of_ble_eq_true rfl, Nat.le_of_ble_eq_true rfl⟩ ⟨(show 2 * (M.2.2 - c0) ≤ 2 * (z.2.2.2 - c0) by omega), (show 52 * (M.2.2 - c0) ≤ 52 * (z.2.2.2 - c0) by omega)⟩ rfl dX11_lean_87 (fun H locs hw => ?_)
      refine lv_istore (lv' := [(4, .int z12), (0, .ref (ad 0)), (2, .int x2), (3, .int x3), (5, .int x5)]) hx hb dX11_lean_90 hl (by decide) rfl (fun ls hl => ?_)
      refine W.widen (k := 2 * (M.2.2 - c0)) (n := 52 * (M.2.2 - c0)) (by omega) (by omega) ?_
      exact k_X11_lean_92 hC (by omega) hq42 hm42 hf hw (lv_sub hl [1, 2, 3, 0, 4] rfl)
set_option maxRecDepth 100000 in
set_option maxHeartbeats 4000000 in
theorem k_X11_lean_42l {p : Program} {l : Launch} {e : Env} {s : State} {m : MethodId} {args : Array Value} {below : List Frame} {meth : Method} {c : Code} {D : va_G} {cy : Nat → ClassId} {z0 : Nat} {ad : Nat → Nat} {X : va_W} (hC : cx_C p s m args meth c cX11_lean "RhymedThen" (Cond.code yX11_lean cX11_lean 6 (some .int)) 6 (some .int)) {z : (Int32 × mm_M)} {c0 : Nat} : ∀ (n : Nat) (x2 : Int32) (x3 : Int32) (x4 : Int32) (x5 : Int32) (M : mm_M) (u : Nat × Nat) (H : Heap) (locs : List Loc) (ls : Array Slot), c0 ≤ M.2.2 → f_X11_lean_42l n x2 x3 x4 x5 M = some z → wd_in cx_T D cy z0 ad u M X s H locs → lv_has ls 6 [(0, .ref (ad 0)), (2, .int x2), (3, .int x3), (4, .int x4), (5, .int x5)] → W p l e { frames := 8, cells := 2 * (z.2.2.2 - c0), slots := 52 * (z.2.2.2 - c0), locals := 238 } s m args below meth c H locs (2 * (M.2.2 - c0)) (52 * (M.2.2 - c0)) (MQ below (aq_i cx_T D cy z0 ad X z.1 z.2) args s (2 * (z.2.2.2 - c0)) (52 * (z.2.2.2 - c0)) (fun q => z0 ≤ q)) (F0 m 42 ls []) := by
  intro n
  induction n with
  | zero => intro x2 x3 x4 x5 M u H locs ls hc0 hf; exact absurd hf (by simp [f_X11_lean_42l])
  | succ n ih => intro x2 x3 x4 x5 M u H locs ls hc0 hf hw hl; exact k_X11_lean_42 hC hc0 ih (mo_X11_lean_42l n) hf hw hl
set_option maxRecDepth 100000 in
set_option maxHeartbeats 4000000 in
theorem k_X11_lean_26 {p : Program} {l : Launch} {e : Env} {s : State} {m : MethodId} {args : Array Value} {below : List Frame} {meth : Method} {c : Code} {D : va_G} {cy : Nat → ClassId} {z0 : Nat} {ad : Nat → Nat} {X : va_W} {u : Nat × Nat} (hC : cx_C p s m args meth c cX11_lean "RhymedThen" (Cond.code yX11_lean cX11_lean 6 (some .int)) 6 (some .int)) {z : (Int32 × mm_M)} {c0 : Nat} {x1 : Int32} {x2 : Int32} {M : mm_M} (hc0 : c0 ≤ M.2.2) (hf : f_X11_lean_26 x1 x2 M = some z) {H : Heap} {locs : List Loc} (hw : wd_in cx_T D cy z0 ad u M X s H locs) {ls : Array Slot} (hl : lv_has ls 6 [(0, .ref (ad 0)), (1, .int x1), (2, .int x2)]) : W p l e { frames := 8, cells := 2 * (z.2.2.2 - c0), slots := 52 * (z.2.2.2 - c0), locals := 238 } s m args below meth c H locs (2 * (M.2.2 - c0)) (52 * (M.2.2 - c0)) (MQ below (aq_i cx_T D cy z0 ad X z.1 z.2) args s (2 * (z.2.2.2 - c0)) (52 * (z.2.2.2 - c0)) (fun q => z0 ≤ q)) (F0 m 26 ls []) := by
  have hx := hC.1
  have hb := hC.2.1
  have hmz : M.2.2 ≤ z.2.2.2 := mo_X11_lean_26 hf
  unfold f_X11_lean_26 at hf
  refine lv_aload_n hx hb dX11_lean_26 rfl (lv_at hl 0 rfl) ?_
  refine rg_p hC hw 0 (Nat.le_of_ble_eq_true rfl) rfl fd_X11_4 wf_X11_44 (q := 19) rfl dX11_lean_27 ?_
  refine lv_iload_n hx hb dX11_lean_30 rfl (lv_at hl 1 rfl) ?_
  obtain ⟨z6, ez6, hf⟩ := bd_e hf
  refine clc_Vi hC hw (c_X6_rhymesOf ez6) hd_X6_rhymesOf cw_X11_370 (Nat.le_of_ble_eq_true rfl) rfl rfl (rest := []) hl.1 rfl (Nat.le_of_ble_eq_true rfl) ⟨Nat.le_of_ble_eq_true rfl, Nat.le_of_ble_eq_true rfl⟩ ⟨(show 2 * (M.2.2 - c0) ≤ 2 * (z.2.2.2 - c0) by omega), (show 52 * (M.2.2 - c0) ≤ 52 * (z.2.2.2 - c0) by omega)⟩ rfl dX11_lean_31 (fun H locs hw => ?_)
  refine lv_istore_n (lv' := [(3, .int z6), (0, .ref (ad 0)), (1, .int x1), (2, .int x2)]) hx hb dX11_lean_34 rfl hl (by decide) rfl (fun ls hl => ?_)
  refine lv_bipush (v := (-2)) hx hb dX11_lean_35 (by decide) ?_
  refine lv_istore (lv' := [(4, .int (-2)), (3, .int z6), (0, .ref (ad 0)), (1, .int x1), (2, .int x2)]) hx hb dX11_lean_37 hl (by decide) rfl (fun ls hl => ?_)
  refine lv_iconst (v := 0) hx hb dX11_lean_39 (by decide) ?_
  refine lv_istore (lv' := [(5, .int 0), (4, .int (-2)), (3, .int z6), (0, .ref (ad 0)), (1, .int x1), (2, .int x2)]) hx hb dX11_lean_40 hl (by decide) rfl (fun ls hl => ?_)
  refine W.widen (k := 2 * (M.2.2 - c0)) (n := 52 * (M.2.2 - c0)) (by omega) (by omega) ?_
  exact k_X11_lean_42l hC fu_ _ _ _ _ _ _ _ _ _ (by omega) hf hw (lv_sub hl [3, 5, 2, 1, 0] rfl)
set_option maxRecDepth 100000 in
set_option maxHeartbeats 4000000 in
theorem k_X11_lean {p : Program} {l : Launch} {e : Env} {s : State} {m : MethodId} {args : Array Value} {below : List Frame} {meth : Method} {c : Code} {D : va_G} {cy : Nat → ClassId} {z0 : Nat} {ad : Nat → Nat} {X : va_W} {u : Nat × Nat} (hC : cx_C p s m args meth c cX11_lean "RhymedThen" (Cond.code yX11_lean cX11_lean 6 (some .int)) 6 (some .int)) {z : (Int32 × mm_M)} {c0 : Nat} {x1 : Int32} {x2 : Int32} {M : mm_M} (hc0 : c0 ≤ M.2.2) (hf : f_X11_lean x1 x2 M = some z) {H : Heap} {locs : List Loc} (hw : wd_in cx_T D cy z0 ad u M X s H locs) {ls : Array Slot} (hl : lv_has ls 6 [(0, .ref (ad 0)), (1, .int x1), (2, .int x2)]) : W p l e { frames := 8, cells := 2 * (z.2.2.2 - c0), slots := 52 * (z.2.2.2 - c0), locals := 238 } s m args below meth c H locs (2 * (M.2.2 - c0)) (52 * (M.2.2 - c0)) (MQ below (aq_i cx_T D cy z0 ad X z.1 z.2) args s (2 * (z.2.2.2 - c0)) (52 * (z.2.2.2 - c0)) (fun q => z0 ≤ q)) (F0 m 0 ls []) := by
  have hx := hC.1
  have hb := hC.2.1
  have hmz : M.2.2 ≤ z.2.2.2 := mo_X11_lean hf
  unfold f_X11_lean at hf
  refine lv_iload_n hx hb dX11_lean_0 rfl (lv_at hl 1 rfl) ?_
  refine lv_bipush (v := 6) hx hb dX11_lean_1 (by decide) ?_
  obtain ⟨z1, ez1, hf⟩ := sq_e hf
  refine clc_Si hC hw (c_X11_isBelow ez1.symm) hd_X11_isBelow cw_X11_101 (rest := []) hl.1 rfl (Nat.le_of_ble_eq_true rfl) ⟨Nat.le_of_ble_eq_true rfl, Nat.le_of_ble_eq_true rfl⟩ ⟨(show 2 * (M.2.2 - c0) ≤ 2 * (z.2.2.2 - c0) by omega), (show 52 * (M.2.2 - c0) ≤ 52 * (z.2.2.2 - c0) by omega)⟩ rfl dX11_lean_3 (fun H locs hw => ?_)
  refine lv_if_eq (tgt := 17) hx hb dX11_lean_6 (by decide) (fun c2 => ?_) (fun c2 => ?_)
  · rw [if_pos c2] at hf
    refine lv_iconst (v := (-1)) hx hb dX11_lean_17 (by decide) ?_
    refine W.widen (k := 2 * (z.2.2.2 - c0)) (n := 52 * (z.2.2.2 - c0)) (by omega) (by omega) ?_
    have hz := Option.some.inj hf
    subst hz
    exact rta_i hC hw dX11_lean_18
  · rw [if_neg c2] at hf
    refine lv_iload_n hx hb dX11_lean_9 rfl (lv_at hl 2 rfl) ?_
    refine lv_iconst (v := 2) hx hb dX11_lean_10 (by decide) ?_
    obtain ⟨z3, ez3, hf⟩ := sq_e hf
    refine clc_Si hC hw (c_X11_isBelow ez3.symm) hd_X11_isBelow cw_X11_101 (rest := []) hl.1 rfl (Nat.le_of_ble_eq_true rfl) ⟨Nat.le_of_ble_eq_true rfl, Nat.le_of_ble_eq_true rfl⟩ ⟨(show 2 * (M.2.2 - c0) ≤ 2 * (z.2.2.2 - c0) by omega), (show 52 * (M.2.2 - c0) ≤ 52 * (z.2.2.2 - c0) by omega)⟩ rfl dX11_lean_11 (fun H locs hw => ?_)
    refine lv_if_ne (tgt := 19) hx hb dX11_lean_14 (by decide) (fun c4 => ?_) (fun c4 => ?_)
    · rw [if_neg c4] at hf
      refine lv_aload_n hx hb dX11_lean_19 rfl (lv_at hl 0 rfl) ?_
      refine rg_p hC hw 0 (Nat.le_of_ble_eq_true rfl) rfl fd_X11_4 wf_X11_44 (q := 19) rfl dX11_lean_20 ?_
      obtain ⟨z5, ez5, hf⟩ := bd_e hf
      have mz5 : M.2.2 ≤ z5.2.2 := mo_X6_lookAnew ez5
      have hnz : z5.2.2 ≤ z.2.2.2 := mo_X11_lean_26 hf
      refine cla_Vv hC hw (c_X6_lookAnew ez5) hd_X6_lookAnew cw_X11_286 (Nat.le_of_ble_eq_true rfl) rfl rfl (rest := []) hl.1 rfl (Nat.le_of_ble_eq_true rfl) ⟨Nat.le_of_ble_eq_true rfl, Nat.le_of_ble_eq_true rfl⟩ ⟨(show 2 * (M.2.2 - c0) + 2 * (z5.2.2 - M.2.2) ≤ 2 * (z.2.2.2 - c0) by omega), (show 52 * (M.2.2 - c0) + 52 * (z5.2.2 - M.2.2) ≤ 52 * (z.2.2.2 - c0) by omega)⟩ rfl dX11_lean_23 (fun u H locs hw => ?_)
      refine W.widen (k := 2 * (z5.2.2 - c0)) (n := 52 * (z5.2.2 - c0)) (by omega) (by omega) ?_
      exact k_X11_lean_26 hC (by omega) hf hw (lv_sub hl [0, 1, 2] rfl)
    · rw [if_pos c4] at hf
      refine lv_iconst (v := (-1)) hx hb dX11_lean_17 (by decide) ?_
      refine W.widen (k := 2 * (z.2.2.2 - c0)) (n := 52 * (z.2.2.2 - c0)) (by omega) (by omega) ?_
      have hz := Option.some.inj hf
      subst hz
      exact rta_i hC hw dX11_lean_18
set_option maxRecDepth 100000 in
theorem c_X11_lean {l : Launch} {D : va_G} {cy : Nat → ClassId} {z0 : Nat} {ad : Nat → Nat} {u : Nat × Nat} {X : va_W} {z : (Int32 × mm_M)} {x1 : Int32} {x2 : Int32} {M : mm_M} (hf : f_X11_lean x1 x2 M = some z) : ca_i cx_T l yX11_lean (Cond.code yX11_lean cX11_lean 6 (some .int)) 8 238 D cy z0 ad u M X [.ref (ad 0), .int x1, .int x2] z.1 z.2 := by
  refine bga_i (by decide) (fun p e s m below meth c hC hw => ?_)
  refine en_t (Nat.le_of_ble_eq_true rfl) (fun ls hl => ?_)
  have hl : lv_has ls 6 [(0, .ref (ad 0)), (1, .int x1), (2, .int x2)] := hl
  refine W.widen (k := 2 * (M.2.2 - M.2.2)) (n := 52 * (M.2.2 - M.2.2)) (by omega) (by omega) ?_
  exact k_X11_lean hC (Nat.le_refl _) hf hw hl
set_option maxRecDepth 100000 in
set_option maxHeartbeats 4000000 in
theorem k_X6_allAreSoWithLag_66 {p : Program} {l : Launch} {e : Env} {s : State} {m : MethodId} {args : Array Value} {below : List Frame} {meth : Method} {c : Code} {D : va_G} {cy : Nat → ClassId} {z0 : Nat} {ad : Nat → Nat} {X : va_W} {u : Nat × Nat} (hC : cx_C p s m args meth c cX6_allAreSoWithLag "RhymedThen$Signs" (Cond.code yX6_allAreSoWithLag cX6_allAreSoWithLag 6 (some .boolean)) 6 (some .boolean)) {z : (Int32 × mm_M)} {c0 : Nat} {x1 : Int32} {x2 : Int32} {x3 : Int32} {x4 : Int32} {M : mm_M} (hc0 : c0 ≤ M.2.2) {q3 : Int32 → Int32 → Int32 → Int32 → mm_M → Option (Int32 × mm_M)} (hq3 : ∀ (x1 : Int32) (x2 : Int32) (x3 : Int32) (x4 : Int32) (M : mm_M) (u : Nat × Nat) (H : Heap) (locs : List Loc) (ls : Array Slot), c0 ≤ M.2.2 → q3 x1 x2 x3 x4 M = some z → wd_in cx_T D cy z0 ad u M X s H locs → lv_has ls 6 [(0, .ref (ad 19)), (1, .int x1), (2, .int x2), (3, .int x3), (4, .int x4)] → W p l e { frames := 6, cells := 2 * (z.2.2.2 - c0), slots := 52 * (z.2.2.2 - c0), locals := 192 } s m args below meth c H locs (2 * (M.2.2 - c0)) (52 * (M.2.2 - c0)) (MQ below (aq_i cx_T D cy z0 ad X z.1 z.2) args s (2 * (z.2.2.2 - c0)) (52 * (z.2.2.2 - c0)) (fun q => z0 ≤ q)) (F0 m 3 ls [])) (hm3 : ∀ (x1 : Int32) (x2 : Int32) (x3 : Int32) (x4 : Int32) (M : mm_M), q3 x1 x2 x3 x4 M = some z → M.2.2 ≤ z.2.2.2) (hf : f_X6_allAreSoWithLag_66 q3 x1 x2 x3 x4 M = some z) {H : Heap} {locs : List Loc} (hw : wd_in cx_T D cy z0 ad u M X s H locs) {ls : Array Slot} (hl : lv_has ls 6 [(0, .ref (ad 19)), (1, .int x1), (2, .int x2), (3, .int x3), (4, .int x4)]) : W p l e { frames := 6, cells := 2 * (z.2.2.2 - c0), slots := 52 * (z.2.2.2 - c0), locals := 192 } s m args below meth c H locs (2 * (M.2.2 - c0)) (52 * (M.2.2 - c0)) (MQ below (aq_i cx_T D cy z0 ad X z.1 z.2) args s (2 * (z.2.2.2 - c0)) (52 * (z.2.2.2 - c0)) (fun q => z0 ≤ q)) (F0 m 66 ls []) := by
  have hx := hC.1
  have hb := hC.2.1
  have hmz : M.2.2 ≤ z.2.2.2 := mo_X6_allAreSoWithLag_66 hm3 hf
  unfold f_X6_allAreSoWithLag_66 at hf
  obtain ⟨y7, ey7, hf⟩ := sq_e hf
  refine lv_iinc (v := y7) (lv' := [(4, .int y7), (0, .ref (ad 19)), (1, .int x1), (2, .int x2), (3, .int x3)]) hx hb dX6_allAreSoWithLag_66 hl (k := 4) rfl (by rw [ey7]; rfl) (by decide) rfl (fun ls hl => ?_)
  refine lv_goto (tgt := 3) hx hb dX6_allAreSoWithLag_69 (by decide) ?_
  refine W.widen (k := 2 * (M.2.2 - c0)) (n := 52 * (M.2.2 - c0)) (by omega) (by omega) ?_
  exact hq3 _ _ _ _ _ _ _ _ _ (by omega) hf hw (lv_sub hl [1, 2, 3, 4, 0] rfl)
set_option maxRecDepth 100000 in
set_option maxHeartbeats 4000000 in
theorem k_X6_allAreSoWithLag_54 {p : Program} {l : Launch} {e : Env} {s : State} {m : MethodId} {args : Array Value} {below : List Frame} {meth : Method} {c : Code} {D : va_G} {cy : Nat → ClassId} {z0 : Nat} {ad : Nat → Nat} {X : va_W} {u : Nat × Nat} (hC : cx_C p s m args meth c cX6_allAreSoWithLag "RhymedThen$Signs" (Cond.code yX6_allAreSoWithLag cX6_allAreSoWithLag 6 (some .boolean)) 6 (some .boolean)) {z : (Int32 × mm_M)} {c0 : Nat} {x1 : Int32} {x2 : Int32} {x3 : Int32} {x4 : Int32} {ks0 : Nat} {t1 : Int32} {M : mm_M} (hks0 : sg_ok ks0) (hc0 : c0 ≤ M.2.2) {q3 : Int32 → Int32 → Int32 → Int32 → mm_M → Option (Int32 × mm_M)} (hq3 : ∀ (x1 : Int32) (x2 : Int32) (x3 : Int32) (x4 : Int32) (M : mm_M) (u : Nat × Nat) (H : Heap) (locs : List Loc) (ls : Array Slot), c0 ≤ M.2.2 → q3 x1 x2 x3 x4 M = some z → wd_in cx_T D cy z0 ad u M X s H locs → lv_has ls 6 [(0, .ref (ad 19)), (1, .int x1), (2, .int x2), (3, .int x3), (4, .int x4)] → W p l e { frames := 6, cells := 2 * (z.2.2.2 - c0), slots := 52 * (z.2.2.2 - c0), locals := 192 } s m args below meth c H locs (2 * (M.2.2 - c0)) (52 * (M.2.2 - c0)) (MQ below (aq_i cx_T D cy z0 ad X z.1 z.2) args s (2 * (z.2.2.2 - c0)) (52 * (z.2.2.2 - c0)) (fun q => z0 ≤ q)) (F0 m 3 ls [])) (hm3 : ∀ (x1 : Int32) (x2 : Int32) (x3 : Int32) (x4 : Int32) (M : mm_M), q3 x1 x2 x3 x4 M = some z → M.2.2 ≤ z.2.2.2) (hf : f_X6_allAreSoWithLag_54 q3 x1 x2 x3 x4 ks0 t1 M = some z) {H : Heap} {locs : List Loc} (hw : wd_in cx_T D cy z0 ad u M X s H locs) {ls : Array Slot} (hl : lv_has ls 6 [(0, .ref (ad 19)), (1, .int x1), (2, .int x2), (3, .int x3), (4, .int x4)]) : W p l e { frames := 6, cells := 2 * (z.2.2.2 - c0), slots := 52 * (z.2.2.2 - c0), locals := 192 } s m args below meth c H locs (2 * (M.2.2 - c0)) (52 * (M.2.2 - c0)) (MQ below (aq_i cx_T D cy z0 ad X z.1 z.2) args s (2 * (z.2.2.2 - c0)) (52 * (z.2.2.2 - c0)) (fun q => z0 ≤ q)) (F0 m 54 ls [.int t1, .ref (ad ks0)]) := by
  have hx := hC.1
  have hb := hC.2.1
  have hmz : M.2.2 ≤ z.2.2.2 := mo_X6_allAreSoWithLag_54 hm3 hf
  unfold f_X6_allAreSoWithLag_54 at hf
  refine lv_aload_n hx hb dX6_allAreSoWithLag_54 rfl (lv_at hl 0 rfl) ?_
  refine rg_p hC hw 19 (Nat.le_of_ble_eq_true rfl) rfl fd_X6_0 wf_X6_31 (q := 5) rfl dX6_allAreSoWithLag_55 ?_
  obtain ⟨z8, ez8, hf⟩ := bd_e hf
  refine clc_Vi hC hw (c_X5_isSoOn hks0 ez8) hd_X5_isSoOn cw_X6_66 (sg_lt hks0) (sg_kd hks0) rfl (rest := []) hl.1 rfl (Nat.le_of_ble_eq_true rfl) ⟨Nat.le_of_ble_eq_true rfl, Nat.le_of_ble_eq_true rfl⟩ ⟨(show 2 * (M.2.2 - c0) ≤ 2 * (z.2.2.2 - c0) by omega), (show 52 * (M.2.2 - c0) ≤ 52 * (z.2.2.2 - c0) by omega)⟩ rfl dX6_allAreSoWithLag_58 (fun H locs hw => ?_)
  refine lv_if_ne (tgt := 66) hx hb dX6_allAreSoWithLag_61 (by decide) (fun c9 => ?_) (fun c9 => ?_)
  · rw [if_neg c9] at hf
    refine W.widen (k := 2 * (M.2.2 - c0)) (n := 52 * (M.2.2 - c0)) (by omega) (by omega) ?_
    exact k_X6_allAreSoWithLag_66 hC (by omega) hq3 hm3 hf hw (lv_sub hl [0, 1, 2, 3, 4] rfl)
  · rw [if_pos c9] at hf
    refine lv_iconst (v := 0) hx hb dX6_allAreSoWithLag_64 (by decide) ?_
    refine W.widen (k := 2 * (z.2.2.2 - c0)) (n := 52 * (z.2.2.2 - c0)) (by omega) (by omega) ?_
    have hz := Option.some.inj hf
    subst hz
    exact rta_z hC hw (Or.inl rfl) dX6_allAreSoWithLag_65
set_option maxRecDepth 100000 in
set_option maxHeartbeats 4000000 in
theorem k_X6_allAreSoWithLag_3 {p : Program} {l : Launch} {e : Env} {s : State} {m : MethodId} {args : Array Value} {below : List Frame} {meth : Method} {c : Code} {D : va_G} {cy : Nat → ClassId} {z0 : Nat} {ad : Nat → Nat} {X : va_W} {u : Nat × Nat} (hC : cx_C p s m args meth c cX6_allAreSoWithLag "RhymedThen$Signs" (Cond.code yX6_allAreSoWithLag cX6_allAreSoWithLag 6 (some .boolean)) 6 (some .boolean)) {z : (Int32 × mm_M)} {c0 : Nat} {x1 : Int32} {x2 : Int32} {x3 : Int32} {x4 : Int32} {M : mm_M} (hc0 : c0 ≤ M.2.2) {q3 : Int32 → Int32 → Int32 → Int32 → mm_M → Option (Int32 × mm_M)} (hq3 : ∀ (x1 : Int32) (x2 : Int32) (x3 : Int32) (x4 : Int32) (M : mm_M) (u : Nat × Nat) (H : Heap) (locs : List Loc) (ls : Array Slot), c0 ≤ M.2.2 → q3 x1 x2 x3 x4 M = some z → wd_in cx_T D cy z0 ad u M X s H locs → lv_has ls 6 [(0, .ref (ad 19)), (1, .int x1), (2, .int x2), (3, .int x3), (4, .int x4)] → W p l e { frames := 6, cells := 2 * (z.2.2.2 - c0), slots := 52 * (z.2.2.2 - c0), locals := 192 } s m args below meth c H locs (2 * (M.2.2 - c0)) (52 * (M.2.2 - c0)) (MQ below (aq_i cx_T D cy z0 ad X z.1 z.2) args s (2 * (z.2.2.2 - c0)) (52 * (z.2.2.2 - c0)) (fun q => z0 ≤ q)) (F0 m 3 ls [])) (hm3 : ∀ (x1 : Int32) (x2 : Int32) (x3 : Int32) (x4 : Int32) (M : mm_M), q3 x1 x2 x3 x4 M = some z → M.2.2 ≤ z.2.2.2) (hf : f_X6_allAreSoWithLag_3 q3 x1 x2 x3 x4 M = some z) {H : Heap} {locs : List Loc} (hw : wd_in cx_T D cy z0 ad u M X s H locs) {ls : Array Slot} (hl : lv_has ls 6 [(0, .ref (ad 19)), (1, .int x1), (2, .int x2), (3, .int x3), (4, .int x4)]) : W p l e { frames := 6, cells := 2 * (z.2.2.2 - c0), slots := 52 * (z.2.2.2 - c0), locals := 192 } s m args below meth c H locs (2 * (M.2.2 - c0)) (52 * (M.2.2 - c0)) (MQ below (aq_i cx_T D cy z0 ad X z.1 z.2) args s (2 * (z.2.2.2 - c0)) (52 * (z.2.2.2 - c0)) (fun q => z0 ≤ q)) (F0 m 3 ls []) := by
  have hx := hC.1
  have hb := hC.2.1
  have hmz : M.2.2 ≤ z.2.2.2 := mo_X6_allAreSoWithLag_3 hm3 hf
  unfold f_X6_allAreSoWithLag_3 at hf
  refine lv_iload hx hb dX6_allAreSoWithLag_3 (lv_at hl 4 rfl) ?_
  refine lv_aload_n hx hb dX6_allAreSoWithLag_5 rfl (lv_at hl 0 rfl) ?_
  refine rg_i hC hw 19 (Nat.le_of_ble_eq_true rfl) rfl fd_X6_3 wf_X6_17 dX6_allAreSoWithLag_6 ?_
  refine lv_icmp_ge (tgt := 72) hx hb dX6_allAreSoWithLag_9 (by decide) (fun c1 => ?_) (fun c1 => ?_)
  · rw [if_pos c1] at hf
    refine lv_iconst (v := 1) hx hb dX6_allAreSoWithLag_72 (by decide) ?_
    refine W.widen (k := 2 * (z.2.2.2 - c0)) (n := 52 * (z.2.2.2 - c0)) (by omega) (by omega) ?_
    have hz := Option.some.inj hf
    subst hz
    exact rta_z hC hw (Or.inr rfl) dX6_allAreSoWithLag_73
  · rw [if_neg c1] at hf
    refine lv_iload_n hx hb dX6_allAreSoWithLag_12 rfl (lv_at hl 1 rfl) ?_
    refine lv_iload hx hb dX6_allAreSoWithLag_13 (lv_at hl 4 rfl) ?_
    refine lv_ishr hx hb dX6_allAreSoWithLag_15 ?_
    refine lv_iconst (v := 1) hx hb dX6_allAreSoWithLag_16 (by decide) ?_
    refine lv_iand hx hb dX6_allAreSoWithLag_17 ?_
    refine lv_if_eq (tgt := 66) hx hb dX6_allAreSoWithLag_18 (by decide) (fun c2 => ?_) (fun c2 => ?_)
    · rw [if_pos c2] at hf
      refine W.widen (k := 2 * (M.2.2 - c0)) (n := 52 * (M.2.2 - c0)) (by omega) (by omega) ?_
      exact k_X6_allAreSoWithLag_66 hC (by omega) hq3 hm3 hf hw (lv_sub hl [0, 1, 2, 3, 4] rfl)
    · rw [if_neg c2] at hf
      refine lv_aload_n hx hb dX6_allAreSoWithLag_21 rfl (lv_at hl 0 rfl) ?_
      refine rg_p hC hw 19 (Nat.le_of_ble_eq_true rfl) rfl fd_X6_2 wf_X6_11 (q := 20) rfl dX6_allAreSoWithLag_22 ?_
      refine lv_iload hx hb dX6_allAreSoWithLag_25 (lv_at hl 4 rfl) ?_
      obtain ⟨h3, hf⟩ := ck_e hf
      refine ra_S hC hw 20 (Nat.le_of_ble_eq_true rfl) rfl h3 dX6_allAreSoWithLag_27 ?_
      refine rg_i hC hw (22 + x4.toNatClampNeg) (sg_lt (sg_ix h3)) (sg_kd (sg_ix h3)) fd_X5_4 wf_X6_51 dX6_allAreSoWithLag_28 ?_
      refine lv_iload_n hx hb dX6_allAreSoWithLag_31 rfl (lv_at hl 3 rfl) ?_
      refine lv_isub hx hb dX6_allAreSoWithLag_32 ?_
      obtain ⟨y4, ey4, hf⟩ := sq_e hf
      refine lt_i ey4 ?_
      refine lv_istore (lv' := [(5, .int y4), (0, .ref (ad 19)), (1, .int x1), (2, .int x2), (3, .int x3), (4, .int x4)]) hx hb dX6_allAreSoWithLag_33 hl (by decide) rfl (fun ls hl => ?_)
      refine lv_aload_n hx hb dX6_allAreSoWithLag_35 rfl (lv_at hl 1 rfl) ?_
      refine rg_p hC hw 19 (Nat.le_of_ble_eq_true rfl) rfl fd_X6_2 wf_X6_11 (q := 20) rfl dX6_allAreSoWithLag_36 ?_
      refine lv_iload hx hb dX6_allAreSoWithLag_39 (lv_at hl 5 rfl) ?_
      obtain ⟨h5, hf⟩ := ck_e hf
      refine ra_S hC hw 20 (Nat.le_of_ble_eq_true rfl) rfl h5 dX6_allAreSoWithLag_41 ?_
      refine lv_aload_n hx hb dX6_allAreSoWithLag_42 rfl (lv_at hl 1 rfl) ?_
      refine rg_p hC hw 19 (Nat.le_of_ble_eq_true rfl) rfl fd_X6_1 wf_X6_35 (q := 14) rfl dX6_allAreSoWithLag_43 ?_
      refine lv_iload_n hx hb dX6_allAreSoWithLag_46 rfl (lv_at hl 3 rfl) ?_
      refine lv_iload hx hb dX6_allAreSoWithLag_47 (lv_at hl 0 rfl) ?_
      refine lv_bipush (v := 63) hx hb dX6_allAreSoWithLag_49 (by decide) ?_
      obtain ⟨z6, ez6, hf⟩ := bd_e hf
      have mz6 : M.2.2 ≤ z6.2.2.2 := mo_X3_courseAmong ez6
      have hnz : z6.2.2.2 ≤ z.2.2.2 := mo_X6_allAreSoWithLag_54 hm3 hf
      refine cla_Vi hC hw (c_X3_courseAmong ez6) hd_X3_courseAmong cw_X6_62 (Nat.le_of_ble_eq_true rfl) rfl rfl (rest := [.ref (ad (22 + x4.toNatClampNeg))]) hl.1 rfl (Nat.le_of_ble_eq_true rfl) ⟨Nat.le_of_ble_eq_true rfl, Nat.le_of_ble_eq_true rfl⟩ ⟨(show 2 * (M.2.2 - c0) + 2 * (z6.2.2.2 - M.2.2) ≤ 2 * (z.2.2.2 - c0) by omega), (show 52 * (M.2.2 - c0) + 52 * (z6.2.2.2 - M.2.2) ≤ 52 * (z.2.2.2 - c0) by omega)⟩ rfl dX6_allAreSoWithLag_51 (fun u H locs hw => ?_)
      refine W.widen (k := 2 * (z6.2.2.2 - c0)) (n := 52 * (z6.2.2.2 - c0)) (by omega) (by omega) ?_
      exact k_X6_allAreSoWithLag_54 hC (sg_ix h5) (by omega) hq3 hm3 hf hw (lv_sub hl [1, 2, 3, 4, 5] rfl)
set_option maxRecDepth 100000 in
set_option maxHeartbeats 4000000 in
theorem k_X6_allAreSoWithLag_3l {p : Program} {l : Launch} {e : Env} {s : State} {m : MethodId} {args : Array Value} {below : List Frame} {meth : Method} {c : Code} {D : va_G} {cy : Nat → ClassId} {z0 : Nat} {ad : Nat → Nat} {X : va_W} (hC : cx_C p s m args meth c cX6_allAreSoWithLag "RhymedThen$Signs" (Cond.code yX6_allAreSoWithLag cX6_allAreSoWithLag 6 (some .boolean)) 6 (some .boolean)) {z : (Int32 × mm_M)} {c0 : Nat} : ∀ (n : Nat) (x1 : Int32) (x2 : Int32) (x3 : Int32) (x4 : Int32) (M : mm_M) (u : Nat × Nat) (H : Heap) (locs : List Loc) (ls : Array Slot), c0 ≤ M.2.2 → f_X6_allAreSoWithLag_3l n x1 x2 x3 x4 M = some z → wd_in cx_T D cy z0 ad u M X s H locs → lv_has ls 6 [(0, .ref (ad 19)), (1, .int x1), (2, .int x2), (3, .int x3), (4, .int x4)] → W p l e { frames := 6, cells := 2 * (z.2.2.2 - c0), slots := 52 * (z.2.2.2 - c0), locals := 192 } s m args below meth c H locs (2 * (M.2.2 - c0)) (52 * (M.2.2 - c0)) (MQ below (aq_i cx_T D cy z0 ad X z.1 z.2) args s (2 * (z.2.2.2 - c0)) (52 * (z.2.2.2 - c0)) (fun q => z0 ≤ q)) (F0 m 3 ls []) := by
  intro n
  induction n with
  | zero => intro x1 x2 x3 x4 M u H locs ls hc0 hf; exact absurd hf (by simp [f_X6_allAreSoWithLag_3l])
  | succ n ih => intro x1 x2 x3 x4 M u H locs ls hc0 hf hw hl; exact k_X6_allAreSoWithLag_3 hC hc0 ih (mo_X6_allAreSoWithLag_3l n) hf hw hl
set_option maxRecDepth 100000 in
set_option maxHeartbeats 4000000 in
theorem k_X6_allAreSoWithLag {p : Program} {l : Launch} {e : Env} {s : State} {m : MethodId} {args : Array Value} {below : List Frame} {meth : Method} {c : Code} {D : va_G} {cy : Nat → ClassId} {z0 : Nat} {ad : Nat → Nat} {X : va_W} {u : Nat × Nat} (hC : cx_C p s m args meth c cX6_allAreSoWithLag "RhymedThen$Signs" (Cond.code yX6_allAreSoWithLag cX6_allAreSoWithLag 6 (some .boolean)) 6 (some .boolean)) {z : (Int32 × mm_M)} {c0 : Nat} {x1 : Int32} {x2 : Int32} {x3 : Int32} {M : mm_M} (hc0 : c0 ≤ M.2.2) (hf : f_X6_allAreSoWithLag x1 x2 x3 M = some z) {H : Heap} {locs : List Loc} (hw : wd_in cx_T D cy z0 ad u M X s H locs) {ls : Array Slot} (hl : lv_has ls 6 [(0, .ref (ad 19)), (1, .int x1), (2, .int x2), (3, .int x3)]) : W p l e { frames := 6, cells := 2 * (z.2.2.2 - c0), slots := 52 * (z.2.2.2 - c0), locals := 192 } s m args below meth c H locs (2 * (M.2.2 - c0)) (52 * (M.2.2 - c0)) (MQ below (aq_i cx_T D cy z0 ad X z.1 z.2) args s (2 * (z.2.2.2 - c0)) (52 * (z.2.2.2 - c0)) (fun q => z0 ≤ q)) (F0 m 0 ls []) := by
  have hx := hC.1
  have hb := hC.2.1
  have hmz : M.2.2 ≤ z.2.2.2 := mo_X6_allAreSoWithLag hf
  unfold f_X6_allAreSoWithLag at hf
  refine lv_iconst (v := 0) hx hb dX6_allAreSoWithLag_0 (by decide) ?_
  refine lv_istore (lv' := [(4, .int 0), (0, .ref (ad 19)), (1, .int x1), (2, .int x2), (3, .int x3)]) hx hb dX6_allAreSoWithLag_1 hl (by decide) rfl (fun ls hl => ?_)
  refine W.widen (k := 2 * (M.2.2 - c0)) (n := 52 * (M.2.2 - c0)) (by omega) (by omega) ?_
  exact k_X6_allAreSoWithLag_3l hC fu_ _ _ _ _ _ _ _ _ _ (by omega) hf hw (lv_sub hl [1, 2, 3, 4, 0] rfl)
set_option maxRecDepth 100000 in
theorem c_X6_allAreSoWithLag {l : Launch} {D : va_G} {cy : Nat → ClassId} {z0 : Nat} {ad : Nat → Nat} {u : Nat × Nat} {X : va_W} {z : (Int32 × mm_M)} {x1 : Int32} {x2 : Int32} {x3 : Int32} {M : mm_M} (hf : f_X6_allAreSoWithLag x1 x2 x3 M = some z) : ca_i cx_T l yX6_allAreSoWithLag (Cond.code yX6_allAreSoWithLag cX6_allAreSoWithLag 6 (some .boolean)) 6 192 D cy z0 ad u M X [.ref (ad 19), .int x1, .int x2, .int x3] z.1 z.2 := by
  refine bga_i (by decide) (fun p e s m below meth c hC hw => ?_)
  refine en_t (Nat.le_of_ble_eq_true rfl) (fun ls hl => ?_)
  have hl : lv_has ls 6 [(0, .ref (ad 19)), (1, .int x1), (2, .int x2), (3, .int x3)] := hl
  refine W.widen (k := 2 * (M.2.2 - M.2.2)) (n := 52 * (M.2.2 - M.2.2)) (by omega) (by omega) ?_
  exact k_X6_allAreSoWithLag hC (Nat.le_refl _) hf hw hl
set_option maxRecDepth 100000 in
set_option maxHeartbeats 4000000 in
theorem k_X6_someFitsWithLag_52 {p : Program} {l : Launch} {e : Env} {s : State} {m : MethodId} {args : Array Value} {below : List Frame} {meth : Method} {c : Code} {D : va_G} {cy : Nat → ClassId} {z0 : Nat} {ad : Nat → Nat} {X : va_W} {u : Nat × Nat} (hC : cx_C p s m args meth c cX6_someFitsWithLag "RhymedThen$Signs" (Cond.code yX6_someFitsWithLag cX6_someFitsWithLag 5 (some .boolean)) 5 (some .boolean)) {z : (Int32 × mm_M)} {c0 : Nat} {x2 : Int32} {x3 : Int32} {x4 : Int32} {M : mm_M} (hc0 : c0 ≤ M.2.2) {q14 : Int32 → Int32 → Int32 → mm_M → Option (Int32 × mm_M)} (hq14 : ∀ (x2 : Int32) (x3 : Int32) (x4 : Int32) (M : mm_M) (u : Nat × Nat) (H : Heap) (locs : List Loc) (ls : Array Slot), c0 ≤ M.2.2 → q14 x2 x3 x4 M = some z → wd_in cx_T D cy z0 ad u M X s H locs → lv_has ls 5 [(0, .ref (ad 19)), (2, .int x2), (3, .int x3), (4, .int x4)] → W p l e { frames := 7, cells := 2 * (z.2.2.2 - c0), slots := 52 * (z.2.2.2 - c0), locals := 217 } s m args below meth c H locs (2 * (M.2.2 - c0)) (52 * (M.2.2 - c0)) (MQ below (aq_i cx_T D cy z0 ad X z.1 z.2) args s (2 * (z.2.2.2 - c0)) (52 * (z.2.2.2 - c0)) (fun q => z0 ≤ q)) (F0 m 14 ls [])) (hm14 : ∀ (x2 : Int32) (x3 : Int32) (x4 : Int32) (M : mm_M), q14 x2 x3 x4 M = some z → M.2.2 ≤ z.2.2.2) (hf : f_X6_someFitsWithLag_52 q14 x2 x3 x4 M = some z) {H : Heap} {locs : List Loc} (hw : wd_in cx_T D cy z0 ad u M X s H locs) {ls : Array Slot} (hl : lv_has ls 5 [(0, .ref (ad 19)), (2, .int x2), (3, .int x3), (4, .int x4)]) : W p l e { frames := 7, cells := 2 * (z.2.2.2 - c0), slots := 52 * (z.2.2.2 - c0), locals := 217 } s m args below meth c H locs (2 * (M.2.2 - c0)) (52 * (M.2.2 - c0)) (MQ below (aq_i cx_T D cy z0 ad X z.1 z.2) args s (2 * (z.2.2.2 - c0)) (52 * (z.2.2.2 - c0)) (fun q => z0 ≤ q)) (F0 m 52 ls []) := by
  have hx := hC.1
  have hb := hC.2.1
  have hmz : M.2.2 ≤ z.2.2.2 := mo_X6_someFitsWithLag_52 hm14 hf
  unfold f_X6_someFitsWithLag_52 at hf
  obtain ⟨y7, ey7, hf⟩ := sq_e hf
  refine lv_iinc (v := y7) (lv' := [(4, .int y7), (0, .ref (ad 19)), (2, .int x2), (3, .int x3)]) hx hb dX6_someFitsWithLag_52 hl (k := 3) rfl (by rw [ey7]; rfl) (by decide) rfl (fun ls hl => ?_)
  refine lv_goto (tgt := 14) hx hb dX6_someFitsWithLag_55 (by decide) ?_
  refine W.widen (k := 2 * (M.2.2 - c0)) (n := 52 * (M.2.2 - c0)) (by omega) (by omega) ?_
  exact hq14 _ _ _ _ _ _ _ _ (by omega) hf hw (lv_sub hl [1, 2, 3, 0] rfl)
set_option maxRecDepth 100000 in
set_option maxHeartbeats 4000000 in
theorem k_X6_someFitsWithLag_47 {p : Program} {l : Launch} {e : Env} {s : State} {m : MethodId} {args : Array Value} {below : List Frame} {meth : Method} {c : Code} {D : va_G} {cy : Nat → ClassId} {z0 : Nat} {ad : Nat → Nat} {X : va_W} {u : Nat × Nat} (hC : cx_C p s m args meth c cX6_someFitsWithLag "RhymedThen$Signs" (Cond.code yX6_someFitsWithLag cX6_someFitsWithLag 5 (some .boolean)) 5 (some .boolean)) {z : (Int32 × mm_M)} {c0 : Nat} {x2 : Int32} {x3 : Int32} {x4 : Int32} {t0 : Int32} {M : mm_M} (hc0 : c0 ≤ M.2.2) {q14 : Int32 → Int32 → Int32 → mm_M → Option (Int32 × mm_M)} (hq14 : ∀ (x2 : Int32) (x3 : Int32) (x4 : Int32) (M : mm_M) (u : Nat × Nat) (H : Heap) (locs : List Loc) (ls : Array Slot), c0 ≤ M.2.2 → q14 x2 x3 x4 M = some z → wd_in cx_T D cy z0 ad u M X s H locs → lv_has ls 5 [(0, .ref (ad 19)), (2, .int x2), (3, .int x3), (4, .int x4)] → W p l e { frames := 7, cells := 2 * (z.2.2.2 - c0), slots := 52 * (z.2.2.2 - c0), locals := 217 } s m args below meth c H locs (2 * (M.2.2 - c0)) (52 * (M.2.2 - c0)) (MQ below (aq_i cx_T D cy z0 ad X z.1 z.2) args s (2 * (z.2.2.2 - c0)) (52 * (z.2.2.2 - c0)) (fun q => z0 ≤ q)) (F0 m 14 ls [])) (hm14 : ∀ (x2 : Int32) (x3 : Int32) (x4 : Int32) (M : mm_M), q14 x2 x3 x4 M = some z → M.2.2 ≤ z.2.2.2) (hf : f_X6_someFitsWithLag_47 q14 x2 x3 x4 t0 M = some z) {H : Heap} {locs : List Loc} (hw : wd_in cx_T D cy z0 ad u M X s H locs) {ls : Array Slot} (hl : lv_has ls 5 [(0, .ref (ad 19)), (2, .int x2), (3, .int x3), (4, .int x4)]) : W p l e { frames := 7, cells := 2 * (z.2.2.2 - c0), slots := 52 * (z.2.2.2 - c0), locals := 217 } s m args below meth c H locs (2 * (M.2.2 - c0)) (52 * (M.2.2 - c0)) (MQ below (aq_i cx_T D cy z0 ad X z.1 z.2) args s (2 * (z.2.2.2 - c0)) (52 * (z.2.2.2 - c0)) (fun q => z0 ≤ q)) (F0 m 47 ls [.int t0]) := by
  have hx := hC.1
  have hb := hC.2.1
  have hmz : M.2.2 ≤ z.2.2.2 := mo_X6_someFitsWithLag_47 hm14 hf
  unfold f_X6_someFitsWithLag_47 at hf
  refine lv_if_eq (tgt := 52) hx hb dX6_someFitsWithLag_47 (by decide) (fun c8 => ?_) (fun c8 => ?_)
  · rw [if_pos c8] at hf
    refine W.widen (k := 2 * (M.2.2 - c0)) (n := 52 * (M.2.2 - c0)) (by omega) (by omega) ?_
    exact k_X6_someFitsWithLag_52 hC (by omega) hq14 hm14 hf hw (lv_sub hl [0, 1, 2, 3] rfl)
  · rw [if_neg c8] at hf
    refine lv_iconst (v := 1) hx hb dX6_someFitsWithLag_50 (by decide) ?_
    refine W.widen (k := 2 * (z.2.2.2 - c0)) (n := 52 * (z.2.2.2 - c0)) (by omega) (by omega) ?_
    have hz := Option.some.inj hf
    subst hz
    exact rta_z hC hw (Or.inr rfl) dX6_someFitsWithLag_51
set_option maxRecDepth 100000 in
set_option maxHeartbeats 4000000 in
theorem k_X6_someFitsWithLag_14 {p : Program} {l : Launch} {e : Env} {s : State} {m : MethodId} {args : Array Value} {below : List Frame} {meth : Method} {c : Code} {D : va_G} {cy : Nat → ClassId} {z0 : Nat} {ad : Nat → Nat} {X : va_W} {u : Nat × Nat} (hC : cx_C p s m args meth c cX6_someFitsWithLag "RhymedThen$Signs" (Cond.code yX6_someFitsWithLag cX6_someFitsWithLag 5 (some .boolean)) 5 (some .boolean)) {z : (Int32 × mm_M)} {c0 : Nat} {x2 : Int32} {x3 : Int32} {x4 : Int32} {M : mm_M} (hc0 : c0 ≤ M.2.2) {q14 : Int32 → Int32 → Int32 → mm_M → Option (Int32 × mm_M)} (hq14 : ∀ (x2 : Int32) (x3 : Int32) (x4 : Int32) (M : mm_M) (u : Nat × Nat) (H : Heap) (locs : List Loc) (ls : Array Slot), c0 ≤ M.2.2 → q14 x2 x3 x4 M = some z → wd_in cx_T D cy z0 ad u M X s H locs → lv_has ls 5 [(0, .ref (ad 19)), (2, .int x2), (3, .int x3), (4, .int x4)] → W p l e { frames := 7, cells := 2 * (z.2.2.2 - c0), slots := 52 * (z.2.2.2 - c0), locals := 217 } s m args below meth c H locs (2 * (M.2.2 - c0)) (52 * (M.2.2 - c0)) (MQ below (aq_i cx_T D cy z0 ad X z.1 z.2) args s (2 * (z.2.2.2 - c0)) (52 * (z.2.2.2 - c0)) (fun q => z0 ≤ q)) (F0 m 14 ls [])) (hm14 : ∀ (x2 : Int32) (x3 : Int32) (x4 : Int32) (M : mm_M), q14 x2 x3 x4 M = some z → M.2.2 ≤ z.2.2.2) (hf : f_X6_someFitsWithLag_14 q14 x2 x3 x4 M = some z) {H : Heap} {locs : List Loc} (hw : wd_in cx_T D cy z0 ad u M X s H locs) {ls : Array Slot} (hl : lv_has ls 5 [(0, .ref (ad 19)), (2, .int x2), (3, .int x3), (4, .int x4)]) : W p l e { frames := 7, cells := 2 * (z.2.2.2 - c0), slots := 52 * (z.2.2.2 - c0), locals := 217 } s m args below meth c H locs (2 * (M.2.2 - c0)) (52 * (M.2.2 - c0)) (MQ below (aq_i cx_T D cy z0 ad X z.1 z.2) args s (2 * (z.2.2.2 - c0)) (52 * (z.2.2.2 - c0)) (fun q => z0 ≤ q)) (F0 m 14 ls []) := by
  have hx := hC.1
  have hb := hC.2.1
  have hmz : M.2.2 ≤ z.2.2.2 := mo_X6_someFitsWithLag_14 hm14 hf
  unfold f_X6_someFitsWithLag_14 at hf
  refine lv_iload hx hb dX6_someFitsWithLag_14 (lv_at hl 3 rfl) ?_
  refine lv_aload_n hx hb dX6_someFitsWithLag_16 rfl (lv_at hl 0 rfl) ?_
  refine rg_p hC hw 19 (Nat.le_of_ble_eq_true rfl) rfl fd_X6_1 wf_X6_35 (q := 14) rfl dX6_someFitsWithLag_17 ?_
  refine rg_i hC hw 14 (Nat.le_of_ble_eq_true rfl) rfl fd_X3_2 wf_X6_59 dX6_someFitsWithLag_20 ?_
  refine lv_icmp_ge (tgt := 58) hx hb dX6_someFitsWithLag_23 (by decide) (fun c3 => ?_) (fun c3 => ?_)
  · rw [if_pos c3] at hf
    refine lv_iconst (v := 0) hx hb dX6_someFitsWithLag_58 (by decide) ?_
    refine W.widen (k := 2 * (z.2.2.2 - c0)) (n := 52 * (z.2.2.2 - c0)) (by omega) (by omega) ?_
    have hz := Option.some.inj hf
    subst hz
    exact rta_z hC hw (Or.inl rfl) dX6_someFitsWithLag_59
  · rw [if_neg c3] at hf
    refine lv_aload_n hx hb dX6_someFitsWithLag_26 rfl (lv_at hl 0 rfl) ?_
    refine lv_iload hx hb dX6_someFitsWithLag_27 (lv_at hl 3 rfl) ?_
    obtain ⟨z4, ez4, hf⟩ := bd_e hf
    refine clc_Vi hC hw (c_X6_failingBy ez4) hd_X6_failingBy cw_X6_74 (Nat.le_of_ble_eq_true rfl) rfl rfl (rest := []) hl.1 rfl (Nat.le_of_ble_eq_true rfl) ⟨Nat.le_of_ble_eq_true rfl, Nat.le_of_ble_eq_true rfl⟩ ⟨(show 2 * (M.2.2 - c0) ≤ 2 * (z.2.2.2 - c0) by omega), (show 52 * (M.2.2 - c0) ≤ 52 * (z.2.2.2 - c0) by omega)⟩ rfl dX6_someFitsWithLag_29 (fun H locs hw => ?_)
    refine lv_iload_n hx hb dX6_someFitsWithLag_32 rfl (lv_at hl 2 rfl) ?_
    refine lv_iconst (v := (-1)) hx hb dX6_someFitsWithLag_33 (by decide) ?_
    refine lv_ixor hx hb dX6_someFitsWithLag_34 ?_
    refine lv_iand hx hb dX6_someFitsWithLag_35 ?_
    refine lv_if_ne (tgt := 52) hx hb dX6_someFitsWithLag_36 (by decide) (fun c5 => ?_) (fun c5 => ?_)
    · rw [if_neg c5] at hf
      refine W.widen (k := 2 * (M.2.2 - c0)) (n := 52 * (M.2.2 - c0)) (by omega) (by omega) ?_
      exact k_X6_someFitsWithLag_52 hC (by omega) hq14 hm14 hf hw (lv_sub hl [0, 1, 2, 3] rfl)
    · rw [if_pos c5] at hf
      refine lv_aload_n hx hb dX6_someFitsWithLag_39 rfl (lv_at hl 0 rfl) ?_
      refine lv_iload_n hx hb dX6_someFitsWithLag_40 rfl (lv_at hl 2 rfl) ?_
      refine lv_iload hx hb dX6_someFitsWithLag_41 (lv_at hl 3 rfl) ?_
      refine lv_iload_n hx hb dX6_someFitsWithLag_43 rfl (lv_at hl 1 rfl) ?_
      obtain ⟨z6, ez6, hf⟩ := bd_e hf
      have mz6 : M.2.2 ≤ z6.2.2.2 := mo_X6_allAreSoWithLag ez6
      have hnz : z6.2.2.2 ≤ z.2.2.2 := mo_X6_someFitsWithLag_47 hm14 hf
      refine cla_Vi hC hw (c_X6_allAreSoWithLag ez6) hd_X6_allAreSoWithLag cw_X6_77 (Nat.le_of_ble_eq_true rfl) rfl rfl (rest := []) hl.1 rfl (Nat.le_of_ble_eq_true rfl) ⟨Nat.le_of_ble_eq_true rfl, Nat.le_of_ble_eq_true rfl⟩ ⟨(show 2 * (M.2.2 - c0) + 2 * (z6.2.2.2 - M.2.2) ≤ 2 * (z.2.2.2 - c0) by omega), (show 52 * (M.2.2 - c0) + 52 * (z6.2.2.2 - M.2.2) ≤ 52 * (z.2.2.2 - c0) by omega)⟩ rfl dX6_someFitsWithLag_44 (fun u H locs hw => ?_)
      refine W.widen (k := 2 * (z6.2.2.2 - c0)) (n := 52 * (z6.2.2.2 - c0)) (by omega) (by omega) ?_
      exact k_X6_someFitsWithLag_47 hC (by omega) hq14 hm14 hf hw (lv_sub hl [0, 1, 2, 3] rfl)
set_option maxRecDepth 100000 in
set_option maxHeartbeats 4000000 in
theorem k_X6_someFitsWithLag_14l {p : Program} {l : Launch} {e : Env} {s : State} {m : MethodId} {args : Array Value} {below : List Frame} {meth : Method} {c : Code} {D : va_G} {cy : Nat → ClassId} {z0 : Nat} {ad : Nat → Nat} {X : va_W} (hC : cx_C p s m args meth c cX6_someFitsWithLag "RhymedThen$Signs" (Cond.code yX6_someFitsWithLag cX6_someFitsWithLag 5 (some .boolean)) 5 (some .boolean)) {z : (Int32 × mm_M)} {c0 : Nat} : ∀ (n : Nat) (x2 : Int32) (x3 : Int32) (x4 : Int32) (M : mm_M) (u : Nat × Nat) (H : Heap) (locs : List Loc) (ls : Array Slot), c0 ≤ M.2.2 → f_X6_someFitsWithLag_14l n x2 x3 x4 M = some z → wd_in cx_T D cy z0 ad u M X s H locs → lv_has ls 5 [(0, .ref (ad 19)), (2, .int x2), (3, .int x3), (4, .int x4)] → W p l e { frames := 7, cells := 2 * (z.2.2.2 - c0), slots := 52 * (z.2.2.2 - c0), locals := 217 } s m args below meth c H locs (2 * (M.2.2 - c0)) (52 * (M.2.2 - c0)) (MQ below (aq_i cx_T D cy z0 ad X z.1 z.2) args s (2 * (z.2.2.2 - c0)) (52 * (z.2.2.2 - c0)) (fun q => z0 ≤ q)) (F0 m 14 ls []) := by
  intro n
  induction n with
  | zero => intro x2 x3 x4 M u H locs ls hc0 hf; exact absurd hf (by simp [f_X6_someFitsWithLag_14l])
  | succ n ih => intro x2 x3 x4 M u H locs ls hc0 hf hw hl; exact k_X6_someFitsWithLag_14 hC hc0 ih (mo_X6_someFitsWithLag_14l n) hf hw hl
set_option maxRecDepth 100000 in
set_option maxHeartbeats 4000000 in
theorem k_X6_someFitsWithLag {p : Program} {l : Launch} {e : Env} {s : State} {m : MethodId} {args : Array Value} {below : List Frame} {meth : Method} {c : Code} {D : va_G} {cy : Nat → ClassId} {z0 : Nat} {ad : Nat → Nat} {X : va_W} {u : Nat × Nat} (hC : cx_C p s m args meth c cX6_someFitsWithLag "RhymedThen$Signs" (Cond.code yX6_someFitsWithLag cX6_someFitsWithLag 5 (some .boolean)) 5 (some .boolean)) {z : (Int32 × mm_M)} {c0 : Nat} {x1 : Int32} {x2 : Int32} {M : mm_M} (hc0 : c0 ≤ M.2.2) (hf : f_X6_someFitsWithLag x1 x2 M = some z) {H : Heap} {locs : List Loc} (hw : wd_in cx_T D cy z0 ad u M X s H locs) {ls : Array Slot} (hl : lv_has ls 5 [(0, .ref (ad 19)), (1, .int x1), (2, .int x2)]) : W p l e { frames := 7, cells := 2 * (z.2.2.2 - c0), slots := 52 * (z.2.2.2 - c0), locals := 217 } s m args below meth c H locs (2 * (M.2.2 - c0)) (52 * (M.2.2 - c0)) (MQ below (aq_i cx_T D cy z0 ad X z.1 z.2) args s (2 * (z.2.2.2 - c0)) (52 * (z.2.2.2 - c0)) (fun q => z0 ≤ q)) (F0 m 0 ls []) := by
  have hx := hC.1
  have hb := hC.2.1
  have hmz : M.2.2 ≤ z.2.2.2 := mo_X6_someFitsWithLag hf
  unfold f_X6_someFitsWithLag at hf
  refine lv_aload_n hx hb dX6_someFitsWithLag_0 rfl (lv_at hl 0 rfl) ?_
  refine rg_i hC hw 19 (Nat.le_of_ble_eq_true rfl) rfl fd_X6_4 wf_X6_21 dX6_someFitsWithLag_1 ?_
  refine lv_aload_n hx hb dX6_someFitsWithLag_4 rfl (lv_at hl 0 rfl) ?_
  refine lv_iload_n hx hb dX6_someFitsWithLag_5 rfl (lv_at hl 1 rfl) ?_
  obtain ⟨z1, ez1, hf⟩ := bd_e hf
  refine clc_Vi hC hw (c_X6_atPlace ez1) hd_X6_atPlace cw_X6_40 (Nat.le_of_ble_eq_true rfl) rfl rfl (rest := [.int (M.1 19 4)]) hl.1 rfl (Nat.le_of_ble_eq_true rfl) ⟨Nat.le_of_ble_eq_true rfl, Nat.le_of_ble_eq_true rfl⟩ ⟨(show 2 * (M.2.2 - c0) ≤ 2 * (z.2.2.2 - c0) by omega), (show 52 * (M.2.2 - c0) ≤ 52 * (z.2.2.2 - c0) by omega)⟩ rfl dX6_someFitsWithLag_6 (fun H locs hw => ?_)
  refine lv_iand hx hb dX6_someFitsWithLag_9 ?_
  obtain ⟨y2, ey2, hf⟩ := sq_e hf
  refine lt_i ey2 ?_
  refine lv_istore_n (lv' := [(3, .int y2), (0, .ref (ad 19)), (1, .int x1), (2, .int x2)]) hx hb dX6_someFitsWithLag_10 rfl hl (by decide) rfl (fun ls hl => ?_)
  refine lv_iconst (v := 0) hx hb dX6_someFitsWithLag_11 (by decide) ?_
  refine lv_istore (lv' := [(4, .int 0), (3, .int y2), (0, .ref (ad 19)), (1, .int x1), (2, .int x2)]) hx hb dX6_someFitsWithLag_12 hl (by decide) rfl (fun ls hl => ?_)
  refine W.widen (k := 2 * (M.2.2 - c0)) (n := 52 * (M.2.2 - c0)) (by omega) (by omega) ?_
  exact k_X6_someFitsWithLag_14l hC fu_ _ _ _ _ _ _ _ _ (by omega) hf hw (lv_sub hl [2, 4, 1, 0] rfl)
set_option maxRecDepth 100000 in
theorem c_X6_someFitsWithLag {l : Launch} {D : va_G} {cy : Nat → ClassId} {z0 : Nat} {ad : Nat → Nat} {u : Nat × Nat} {X : va_W} {z : (Int32 × mm_M)} {x1 : Int32} {x2 : Int32} {M : mm_M} (hf : f_X6_someFitsWithLag x1 x2 M = some z) : ca_i cx_T l yX6_someFitsWithLag (Cond.code yX6_someFitsWithLag cX6_someFitsWithLag 5 (some .boolean)) 7 217 D cy z0 ad u M X [.ref (ad 19), .int x1, .int x2] z.1 z.2 := by
  refine bga_i (by decide) (fun p e s m below meth c hC hw => ?_)
  refine en_t (Nat.le_of_ble_eq_true rfl) (fun ls hl => ?_)
  have hl : lv_has ls 5 [(0, .ref (ad 19)), (1, .int x1), (2, .int x2)] := hl
  refine W.widen (k := 2 * (M.2.2 - M.2.2)) (n := 52 * (M.2.2 - M.2.2)) (by omega) (by omega) ?_
  exact k_X6_someFitsWithLag hC (Nat.le_refl _) hf hw hl
set_option maxRecDepth 100000 in
set_option maxHeartbeats 4000000 in
theorem k_X11_ahead_58 {p : Program} {l : Launch} {e : Env} {s : State} {m : MethodId} {args : Array Value} {below : List Frame} {meth : Method} {c : Code} {D : va_G} {cy : Nat → ClassId} {z0 : Nat} {ad : Nat → Nat} {X : va_W} {u : Nat × Nat} (hC : cx_C p s m args meth c cX11_ahead "RhymedThen" (Cond.code yX11_ahead cX11_ahead 5 (some .int)) 5 (some .int)) {z : (Int32 × mm_M)} {c0 : Nat} {x1 : Int32} {x2 : Int32} {x3 : Int32} {x4 : Int32} {t0 : Int32} {M : mm_M} (hc0 : c0 ≤ M.2.2) {q26 : Int32 → Int32 → Int32 → mm_M → Option (Int32 × mm_M)} (hq26 : ∀ (x1 : Int32) (x2 : Int32) (x3 : Int32) (M : mm_M) (u : Nat × Nat) (H : Heap) (locs : List Loc) (ls : Array Slot), c0 ≤ M.2.2 → q26 x1 x2 x3 M = some z → wd_in cx_T D cy z0 ad u M X s H locs → lv_has ls 5 [(0, .ref (ad 0)), (1, .int x1), (2, .int x2), (3, .int x3)] → W p l e { frames := 8, cells := 2 * (z.2.2.2 - c0), slots := 52 * (z.2.2.2 - c0), locals := 241 } s m args below meth c H locs (2 * (M.2.2 - c0)) (52 * (M.2.2 - c0)) (MQ below (aq_i cx_T D cy z0 ad X z.1 z.2) args s (2 * (z.2.2.2 - c0)) (52 * (z.2.2.2 - c0)) (fun q => z0 ≤ q)) (F0 m 26 ls [])) (hm26 : ∀ (x1 : Int32) (x2 : Int32) (x3 : Int32) (M : mm_M), q26 x1 x2 x3 M = some z → M.2.2 ≤ z.2.2.2) (hf : f_X11_ahead_58 q26 x1 x2 x3 x4 t0 M = some z) {H : Heap} {locs : List Loc} (hw : wd_in cx_T D cy z0 ad u M X s H locs) {ls : Array Slot} (hl : lv_has ls 5 [(0, .ref (ad 0)), (1, .int x1), (2, .int x2), (3, .int x3), (4, .int x4)]) : W p l e { frames := 8, cells := 2 * (z.2.2.2 - c0), slots := 52 * (z.2.2.2 - c0), locals := 241 } s m args below meth c H locs (2 * (M.2.2 - c0)) (52 * (M.2.2 - c0)) (MQ below (aq_i cx_T D cy z0 ad X z.1 z.2) args s (2 * (z.2.2.2 - c0)) (52 * (z.2.2.2 - c0)) (fun q => z0 ≤ q)) (F0 m 58 ls [.int t0]) := by
  have hx := hC.1
  have hb := hC.2.1
  have hmz : M.2.2 ≤ z.2.2.2 := mo_X11_ahead_58 hm26 hf
  unfold f_X11_ahead_58 at hf
  refine lv_if_eq (tgt := 64) hx hb dX11_ahead_58 (by decide) (fun c9 => ?_) (fun c9 => ?_)
  · rw [if_pos c9] at hf
    obtain ⟨y10, ey10, hf⟩ := sq_e hf
    refine lv_iinc (v := y10) (lv' := [(3, .int y10), (0, .ref (ad 0)), (1, .int x1), (2, .int x2), (4, .int x4)]) hx hb dX11_ahead_64 hl (k := 3) rfl (by rw [ey10]; rfl) (by decide) rfl (fun ls hl => ?_)
    refine lv_goto (tgt := 26) hx hb dX11_ahead_67 (by decide) ?_
    refine W.widen (k := 2 * (M.2.2 - c0)) (n := 52 * (M.2.2 - c0)) (by omega) (by omega) ?_
    exact hq26 _ _ _ _ _ _ _ _ (by omega) hf hw (lv_sub hl [1, 2, 3, 0] rfl)
  · rw [if_neg c9] at hf
    refine lv_iload hx hb dX11_ahead_61 (lv_at hl 4 rfl) ?_
    refine W.widen (k := 2 * (z.2.2.2 - c0)) (n := 52 * (z.2.2.2 - c0)) (by omega) (by omega) ?_
    have hz := Option.some.inj hf
    subst hz
    exact rta_i hC hw dX11_ahead_63
set_option maxRecDepth 100000 in
set_option maxHeartbeats 4000000 in
theorem k_X11_ahead_46 {p : Program} {l : Launch} {e : Env} {s : State} {m : MethodId} {args : Array Value} {below : List Frame} {meth : Method} {c : Code} {D : va_G} {cy : Nat → ClassId} {z0 : Nat} {ad : Nat → Nat} {X : va_W} {u : Nat × Nat} (hC : cx_C p s m args meth c cX11_ahead "RhymedThen" (Cond.code yX11_ahead cX11_ahead 5 (some .int)) 5 (some .int)) {z : (Int32 × mm_M)} {c0 : Nat} {x1 : Int32} {x2 : Int32} {x3 : Int32} {t0 : Int32} {M : mm_M} (hc0 : c0 ≤ M.2.2) {q26 : Int32 → Int32 → Int32 → mm_M → Option (Int32 × mm_M)} (hq26 : ∀ (x1 : Int32) (x2 : Int32) (x3 : Int32) (M : mm_M) (u : Nat × Nat) (H : Heap) (locs : List Loc) (ls : Array Slot), c0 ≤ M.2.2 → q26 x1 x2 x3 M = some z → wd_in cx_T D cy z0 ad u M X s H locs → lv_has ls 5 [(0, .ref (ad 0)), (1, .int x1), (2, .int x2), (3, .int x3)] → W p l e { frames := 8, cells := 2 * (z.2.2.2 - c0), slots := 52 * (z.2.2.2 - c0), locals := 241 } s m args below meth c H locs (2 * (M.2.2 - c0)) (52 * (M.2.2 - c0)) (MQ below (aq_i cx_T D cy z0 ad X z.1 z.2) args s (2 * (z.2.2.2 - c0)) (52 * (z.2.2.2 - c0)) (fun q => z0 ≤ q)) (F0 m 26 ls [])) (hm26 : ∀ (x1 : Int32) (x2 : Int32) (x3 : Int32) (M : mm_M), q26 x1 x2 x3 M = some z → M.2.2 ≤ z.2.2.2) (hf : f_X11_ahead_46 q26 x1 x2 x3 t0 M = some z) {H : Heap} {locs : List Loc} (hw : wd_in cx_T D cy z0 ad u M X s H locs) {ls : Array Slot} (hl : lv_has ls 5 [(0, .ref (ad 0)), (1, .int x1), (2, .int x2), (3, .int x3)]) : W p l e { frames := 8, cells := 2 * (z.2.2.2 - c0), slots := 52 * (z.2.2.2 - c0), locals := 241 } s m args below meth c H locs (2 * (M.2.2 - c0)) (52 * (M.2.2 - c0)) (MQ below (aq_i cx_T D cy z0 ad X z.1 z.2) args s (2 * (z.2.2.2 - c0)) (52 * (z.2.2.2 - c0)) (fun q => z0 ≤ q)) (F0 m 46 ls [.int t0]) := by
  have hx := hC.1
  have hb := hC.2.1
  have hmz : M.2.2 ≤ z.2.2.2 := mo_X11_ahead_46 hm26 hf
  unfold f_X11_ahead_46 at hf
  refine lv_istore (lv' := [(4, .int t0), (0, .ref (ad 0)), (1, .int x1), (2, .int x2), (3, .int x3)]) hx hb dX11_ahead_46 hl (by decide) rfl (fun ls hl => ?_)
  refine lv_aload_n hx hb dX11_ahead_48 rfl (lv_at hl 1 rfl) ?_
  refine rg_p hC hw 0 (Nat.le_of_ble_eq_true rfl) rfl fd_X11_4 wf_X11_44 (q := 19) rfl dX11_ahead_49 ?_
  refine lv_iload_n hx hb dX11_ahead_52 rfl (lv_at hl 2 rfl) ?_
  refine lv_iload hx hb dX11_ahead_53 (lv_at hl 0 rfl) ?_
  obtain ⟨z8, ez8, hf⟩ := bd_e hf
  have mz8 : M.2.2 ≤ z8.2.2.2 := mo_X6_someFitsWithLag ez8
  have hnz : z8.2.2.2 ≤ z.2.2.2 := mo_X11_ahead_58 hm26 hf
  refine cla_Vi hC hw (c_X6_someFitsWithLag ez8) hd_X6_someFitsWithLag cw_X11_379 (Nat.le_of_ble_eq_true rfl) rfl rfl (rest := []) hl.1 rfl (Nat.le_of_ble_eq_true rfl) ⟨Nat.le_of_ble_eq_true rfl, Nat.le_of_ble_eq_true rfl⟩ ⟨(show 2 * (M.2.2 - c0) + 2 * (z8.2.2.2 - M.2.2) ≤ 2 * (z.2.2.2 - c0) by omega), (show 52 * (M.2.2 - c0) + 52 * (z8.2.2.2 - M.2.2) ≤ 52 * (z.2.2.2 - c0) by omega)⟩ rfl dX11_ahead_55 (fun u H locs hw => ?_)
  refine W.widen (k := 2 * (z8.2.2.2 - c0)) (n := 52 * (z8.2.2.2 - c0)) (by omega) (by omega) ?_
  exact k_X11_ahead_58 hC (by omega) hq26 hm26 hf hw (lv_sub hl [1, 2, 3, 4, 0] rfl)
set_option maxRecDepth 100000 in
set_option maxHeartbeats 4000000 in
theorem k_X11_ahead_26 {p : Program} {l : Launch} {e : Env} {s : State} {m : MethodId} {args : Array Value} {below : List Frame} {meth : Method} {c : Code} {D : va_G} {cy : Nat → ClassId} {z0 : Nat} {ad : Nat → Nat} {X : va_W} {u : Nat × Nat} (hC : cx_C p s m args meth c cX11_ahead "RhymedThen" (Cond.code yX11_ahead cX11_ahead 5 (some .int)) 5 (some .int)) {z : (Int32 × mm_M)} {c0 : Nat} {x1 : Int32} {x2 : Int32} {x3 : Int32} {M : mm_M} (hc0 : c0 ≤ M.2.2) {q26 : Int32 → Int32 → Int32 → mm_M → Option (Int32 × mm_M)} (hq26 : ∀ (x1 : Int32) (x2 : Int32) (x3 : Int32) (M : mm_M) (u : Nat × Nat) (H : Heap) (locs : List Loc) (ls : Array Slot), c0 ≤ M.2.2 → q26 x1 x2 x3 M = some z → wd_in cx_T D cy z0 ad u M X s H locs → lv_has ls 5 [(0, .ref (ad 0)), (1, .int x1), (2, .int x2), (3, .int x3)] → W p l e { frames := 8, cells := 2 * (z.2.2.2 - c0), slots := 52 * (z.2.2.2 - c0), locals := 241 } s m args below meth c H locs (2 * (M.2.2 - c0)) (52 * (M.2.2 - c0)) (MQ below (aq_i cx_T D cy z0 ad X z.1 z.2) args s (2 * (z.2.2.2 - c0)) (52 * (z.2.2.2 - c0)) (fun q => z0 ≤ q)) (F0 m 26 ls [])) (hm26 : ∀ (x1 : Int32) (x2 : Int32) (x3 : Int32) (M : mm_M), q26 x1 x2 x3 M = some z → M.2.2 ≤ z.2.2.2) (hf : f_X11_ahead_26 q26 x1 x2 x3 M = some z) {H : Heap} {locs : List Loc} (hw : wd_in cx_T D cy z0 ad u M X s H locs) {ls : Array Slot} (hl : lv_has ls 5 [(0, .ref (ad 0)), (1, .int x1), (2, .int x2), (3, .int x3)]) : W p l e { frames := 8, cells := 2 * (z.2.2.2 - c0), slots := 52 * (z.2.2.2 - c0), locals := 241 } s m args below meth c H locs (2 * (M.2.2 - c0)) (52 * (M.2.2 - c0)) (MQ below (aq_i cx_T D cy z0 ad X z.1 z.2) args s (2 * (z.2.2.2 - c0)) (52 * (z.2.2.2 - c0)) (fun q => z0 ≤ q)) (F0 m 26 ls []) := by
  have hx := hC.1
  have hb := hC.2.1
  have hmz : M.2.2 ≤ z.2.2.2 := mo_X11_ahead_26 hm26 hf
  unfold f_X11_ahead_26 at hf
  refine lv_iload_n hx hb dX11_ahead_26 rfl (lv_at hl 3 rfl) ?_
  refine lv_sipush (v := 200) hx hb dX11_ahead_27 (by decide) ?_
  refine lv_icmp_gt (tgt := 70) hx hb dX11_ahead_30 (by decide) (fun c6 => ?_) (fun c6 => ?_)
  · rw [if_pos c6] at hf
    refine lv_bipush (v := (-2)) hx hb dX11_ahead_70 (by decide) ?_
    refine W.widen (k := 2 * (z.2.2.2 - c0)) (n := 52 * (z.2.2.2 - c0)) (by omega) (by omega) ?_
    have hz := Option.some.inj hf
    subst hz
    exact rta_i hC hw dX11_ahead_72
  · rw [if_neg c6] at hf
    refine lv_iload_n hx hb dX11_ahead_33 rfl (lv_at hl 2 rfl) ?_
    refine lv_if_ne (tgt := 41) hx hb dX11_ahead_34 (by decide) (fun c7 => ?_) (fun c7 => ?_)
    · rw [if_neg c7] at hf
      refine lv_sipush (v := 200) hx hb dX11_ahead_41 (by decide) ?_
      refine lv_iload_n hx hb dX11_ahead_44 rfl (lv_at hl 3 rfl) ?_
      refine lv_isub hx hb dX11_ahead_45 ?_
      refine W.widen (k := 2 * (M.2.2 - c0)) (n := 52 * (M.2.2 - c0)) (by omega) (by omega) ?_
      exact k_X11_ahead_46 hC (by omega) hq26 hm26 hf hw (lv_sub hl [0, 1, 2, 3] rfl)
    · rw [if_pos c7] at hf
      refine lv_iload_n hx hb dX11_ahead_37 rfl (lv_at hl 3 rfl) ?_
      refine lv_goto (tgt := 46) hx hb dX11_ahead_38 (by decide) ?_
      refine W.widen (k := 2 * (M.2.2 - c0)) (n := 52 * (M.2.2 - c0)) (by omega) (by omega) ?_
      exact k_X11_ahead_46 hC (by omega) hq26 hm26 hf hw (lv_sub hl [0, 1, 2, 3] rfl)
set_option maxRecDepth 100000 in
set_option maxHeartbeats 4000000 in
theorem k_X11_ahead_26l {p : Program} {l : Launch} {e : Env} {s : State} {m : MethodId} {args : Array Value} {below : List Frame} {meth : Method} {c : Code} {D : va_G} {cy : Nat → ClassId} {z0 : Nat} {ad : Nat → Nat} {X : va_W} (hC : cx_C p s m args meth c cX11_ahead "RhymedThen" (Cond.code yX11_ahead cX11_ahead 5 (some .int)) 5 (some .int)) {z : (Int32 × mm_M)} {c0 : Nat} : ∀ (n : Nat) (x1 : Int32) (x2 : Int32) (x3 : Int32) (M : mm_M) (u : Nat × Nat) (H : Heap) (locs : List Loc) (ls : Array Slot), c0 ≤ M.2.2 → f_X11_ahead_26l n x1 x2 x3 M = some z → wd_in cx_T D cy z0 ad u M X s H locs → lv_has ls 5 [(0, .ref (ad 0)), (1, .int x1), (2, .int x2), (3, .int x3)] → W p l e { frames := 8, cells := 2 * (z.2.2.2 - c0), slots := 52 * (z.2.2.2 - c0), locals := 241 } s m args below meth c H locs (2 * (M.2.2 - c0)) (52 * (M.2.2 - c0)) (MQ below (aq_i cx_T D cy z0 ad X z.1 z.2) args s (2 * (z.2.2.2 - c0)) (52 * (z.2.2.2 - c0)) (fun q => z0 ≤ q)) (F0 m 26 ls []) := by
  intro n
  induction n with
  | zero => intro x1 x2 x3 M u H locs ls hc0 hf; exact absurd hf (by simp [f_X11_ahead_26l])
  | succ n ih => intro x1 x2 x3 M u H locs ls hc0 hf hw hl; exact k_X11_ahead_26 hC hc0 ih (mo_X11_ahead_26l n) hf hw hl
set_option maxRecDepth 100000 in
set_option maxHeartbeats 4000000 in
theorem k_X11_ahead_24 {p : Program} {l : Launch} {e : Env} {s : State} {m : MethodId} {args : Array Value} {below : List Frame} {meth : Method} {c : Code} {D : va_G} {cy : Nat → ClassId} {z0 : Nat} {ad : Nat → Nat} {X : va_W} {u : Nat × Nat} (hC : cx_C p s m args meth c cX11_ahead "RhymedThen" (Cond.code yX11_ahead cX11_ahead 5 (some .int)) 5 (some .int)) {z : (Int32 × mm_M)} {c0 : Nat} {x1 : Int32} {x2 : Int32} {M : mm_M} (hc0 : c0 ≤ M.2.2) (hf : f_X11_ahead_24 x1 x2 M = some z) {H : Heap} {locs : List Loc} (hw : wd_in cx_T D cy z0 ad u M X s H locs) {ls : Array Slot} (hl : lv_has ls 5 [(0, .ref (ad 0)), (1, .int x1), (2, .int x2)]) : W p l e { frames := 8, cells := 2 * (z.2.2.2 - c0), slots := 52 * (z.2.2.2 - c0), locals := 241 } s m args below meth c H locs (2 * (M.2.2 - c0)) (52 * (M.2.2 - c0)) (MQ below (aq_i cx_T D cy z0 ad X z.1 z.2) args s (2 * (z.2.2.2 - c0)) (52 * (z.2.2.2 - c0)) (fun q => z0 ≤ q)) (F0 m 24 ls []) := by
  have hx := hC.1
  have hb := hC.2.1
  have hmz : M.2.2 ≤ z.2.2.2 := mo_X11_ahead_24 hf
  unfold f_X11_ahead_24 at hf
  refine lv_iconst (v := 0) hx hb dX11_ahead_24 (by decide) ?_
  refine lv_istore_n (lv' := [(3, .int 0), (0, .ref (ad 0)), (1, .int x1), (2, .int x2)]) hx hb dX11_ahead_25 rfl hl (by decide) rfl (fun ls hl => ?_)
  refine W.widen (k := 2 * (M.2.2 - c0)) (n := 52 * (M.2.2 - c0)) (by omega) (by omega) ?_
  exact k_X11_ahead_26l hC fu_ _ _ _ _ _ _ _ _ (by omega) hf hw (lv_sub hl [1, 2, 3, 0] rfl)
set_option maxRecDepth 100000 in
set_option maxHeartbeats 4000000 in
theorem k_X11_ahead {p : Program} {l : Launch} {e : Env} {s : State} {m : MethodId} {args : Array Value} {below : List Frame} {meth : Method} {c : Code} {D : va_G} {cy : Nat → ClassId} {z0 : Nat} {ad : Nat → Nat} {X : va_W} {u : Nat × Nat} (hC : cx_C p s m args meth c cX11_ahead "RhymedThen" (Cond.code yX11_ahead cX11_ahead 5 (some .int)) 5 (some .int)) {z : (Int32 × mm_M)} {c0 : Nat} {x1 : Int32} {x2 : Int32} {M : mm_M} (hc0 : c0 ≤ M.2.2) (hf : f_X11_ahead x1 x2 M = some z) {H : Heap} {locs : List Loc} (hw : wd_in cx_T D cy z0 ad u M X s H locs) {ls : Array Slot} (hl : lv_has ls 5 [(0, .ref (ad 0)), (1, .int x1), (2, .int x2)]) : W p l e { frames := 8, cells := 2 * (z.2.2.2 - c0), slots := 52 * (z.2.2.2 - c0), locals := 241 } s m args below meth c H locs (2 * (M.2.2 - c0)) (52 * (M.2.2 - c0)) (MQ below (aq_i cx_T D cy z0 ad X z.1 z.2) args s (2 * (z.2.2.2 - c0)) (52 * (z.2.2.2 - c0)) (fun q => z0 ≤ q)) (F0 m 0 ls []) := by
  have hx := hC.1
  have hb := hC.2.1
  have hmz : M.2.2 ≤ z.2.2.2 := mo_X11_ahead hf
  unfold f_X11_ahead at hf
  refine lv_iload_n hx hb dX11_ahead_0 rfl (lv_at hl 1 rfl) ?_
  obtain ⟨z1, ez1, hf⟩ := sq_e hf
  refine clc_Si hC hw (c_X11_isPlace ez1.symm) hd_X11_isPlace cw_X11_163 (rest := []) hl.1 rfl (Nat.le_of_ble_eq_true rfl) ⟨Nat.le_of_ble_eq_true rfl, Nat.le_of_ble_eq_true rfl⟩ ⟨(show 2 * (M.2.2 - c0) ≤ 2 * (z.2.2.2 - c0) by omega), (show 52 * (M.2.2 - c0) ≤ 52 * (z.2.2.2 - c0) by omega)⟩ rfl dX11_ahead_1 (fun H locs hw => ?_)
  refine lv_if_eq (tgt := 15) hx hb dX11_ahead_4 (by decide) (fun c2 => ?_) (fun c2 => ?_)
  · rw [if_pos c2] at hf
    refine lv_iconst (v := (-1)) hx hb dX11_ahead_15 (by decide) ?_
    refine W.widen (k := 2 * (z.2.2.2 - c0)) (n := 52 * (z.2.2.2 - c0)) (by omega) (by omega) ?_
    have hz := Option.some.inj hf
    subst hz
    exact rta_i hC hw dX11_ahead_16
  · rw [if_neg c2] at hf
    refine lv_iload_n hx hb dX11_ahead_7 rfl (lv_at hl 2 rfl) ?_
    refine lv_iconst (v := 2) hx hb dX11_ahead_8 (by decide) ?_
    obtain ⟨z3, ez3, hf⟩ := sq_e hf
    refine clc_Si hC hw (c_X11_isBelow ez3.symm) hd_X11_isBelow cw_X11_101 (rest := []) hl.1 rfl (Nat.le_of_ble_eq_true rfl) ⟨Nat.le_of_ble_eq_true rfl, Nat.le_of_ble_eq_true rfl⟩ ⟨(show 2 * (M.2.2 - c0) ≤ 2 * (z.2.2.2 - c0) by omega), (show 52 * (M.2.2 - c0) ≤ 52 * (z.2.2.2 - c0) by omega)⟩ rfl dX11_ahead_9 (fun H locs hw => ?_)
    refine lv_if_ne (tgt := 17) hx hb dX11_ahead_12 (by decide) (fun c4 => ?_) (fun c4 => ?_)
    · rw [if_neg c4] at hf
      refine lv_aload_n hx hb dX11_ahead_17 rfl (lv_at hl 0 rfl) ?_
      refine rg_p hC hw 0 (Nat.le_of_ble_eq_true rfl) rfl fd_X11_4 wf_X11_44 (q := 19) rfl dX11_ahead_18 ?_
      obtain ⟨z5, ez5, hf⟩ := bd_e hf
      have mz5 : M.2.2 ≤ z5.2.2 := mo_X6_lookAnew ez5
      have hnz : z5.2.2 ≤ z.2.2.2 := mo_X11_ahead_24 hf
      refine cla_Vv hC hw (c_X6_lookAnew ez5) hd_X6_lookAnew cw_X11_286 (Nat.le_of_ble_eq_true rfl) rfl rfl (rest := []) hl.1 rfl (Nat.le_of_ble_eq_true rfl) ⟨Nat.le_of_ble_eq_true rfl, Nat.le_of_ble_eq_true rfl⟩ ⟨(show 2 * (M.2.2 - c0) + 2 * (z5.2.2 - M.2.2) ≤ 2 * (z.2.2.2 - c0) by omega), (show 52 * (M.2.2 - c0) + 52 * (z5.2.2 - M.2.2) ≤ 52 * (z.2.2.2 - c0) by omega)⟩ rfl dX11_ahead_21 (fun u H locs hw => ?_)
      refine W.widen (k := 2 * (z5.2.2 - c0)) (n := 52 * (z5.2.2 - c0)) (by omega) (by omega) ?_
      exact k_X11_ahead_24 hC (by omega) hf hw (lv_sub hl [0, 1, 2] rfl)
    · rw [if_pos c4] at hf
      refine lv_iconst (v := (-1)) hx hb dX11_ahead_15 (by decide) ?_
      refine W.widen (k := 2 * (z.2.2.2 - c0)) (n := 52 * (z.2.2.2 - c0)) (by omega) (by omega) ?_
      have hz := Option.some.inj hf
      subst hz
      exact rta_i hC hw dX11_ahead_16
set_option maxRecDepth 100000 in
theorem c_X11_ahead {l : Launch} {D : va_G} {cy : Nat → ClassId} {z0 : Nat} {ad : Nat → Nat} {u : Nat × Nat} {X : va_W} {z : (Int32 × mm_M)} {x1 : Int32} {x2 : Int32} {M : mm_M} (hf : f_X11_ahead x1 x2 M = some z) : ca_i cx_T l yX11_ahead (Cond.code yX11_ahead cX11_ahead 5 (some .int)) 8 241 D cy z0 ad u M X [.ref (ad 0), .int x1, .int x2] z.1 z.2 := by
  refine bga_i (by decide) (fun p e s m below meth c hC hw => ?_)
  refine en_t (Nat.le_of_ble_eq_true rfl) (fun ls hl => ?_)
  have hl : lv_has ls 5 [(0, .ref (ad 0)), (1, .int x1), (2, .int x2)] := hl
  refine W.widen (k := 2 * (M.2.2 - M.2.2)) (n := 52 * (M.2.2 - M.2.2)) (by omega) (by omega) ?_
  exact k_X11_ahead hC (Nat.le_refl _) hf hw hl
set_option maxRecDepth 100000 in
set_option maxHeartbeats 4000000 in
theorem k_X7_clear {p : Program} {l : Launch} {e : Env} {s : State} {m : MethodId} {args : Array Value} {below : List Frame} {meth : Method} {c : Code} {D : va_G} {cy : Nat → ClassId} {z0 : Nat} {ad : Nat → Nat} {X : va_W} {u : Nat × Nat} (hC : cx_C p s m args meth c cX7_clear "RhymedThen$Stage" (Cond.code yX7_clear cX7_clear 1 none) 1 none) {z : mm_M} {M : mm_M} (hf : f_X7_clear M = z) {H : Heap} {locs : List Loc} (hw : wd_in cx_T D cy z0 ad u M X s H locs) {ls : Array Slot} (hl : lv_has ls 1 [(0, .ref (ad 42))]) : W p l e { frames := 0, cells := 0, slots := 0, locals := 0 } s m args below meth c H locs 0 0 (MQ below (cq_v cx_T D cy z0 ad u X z) args s 0 0 (fun q => z0 ≤ q)) (F0 m 0 ls []) := by
  have hx := hC.1
  have hb := hC.2.1
  unfold f_X7_clear at hf
  refine lv_aload_n hx hb dX7_clear_0 rfl (lv_at hl 0 rfl) ?_
  refine lv_iconst (v := 0) hx hb dX7_clear_1 (by decide) ?_
  obtain ⟨M1, eM1, hf⟩ := sq_e hf
  refine rp_i hC hw 42 (Nat.le_of_ble_eq_true rfl) rfl fd_X7_0 wf_X7_9 fp_X7_0 rfl rfl dX7_clear_2 eM1 (fun H locs hw => ?_)
  refine lv_aload_n hx hb dX7_clear_5 rfl (lv_at hl 0 rfl) ?_
  refine lv_iconst (v := 0) hx hb dX7_clear_6 (by decide) ?_
  obtain ⟨M2, eM2, hf⟩ := sq_e hf
  refine rp_i hC hw 42 (Nat.le_of_ble_eq_true rfl) rfl fd_X7_1 wf_X7_15 fp_X7_1 rfl rfl dX7_clear_7 eM2 (fun H locs hw => ?_)
  refine lv_aload_n hx hb dX7_clear_10 rfl (lv_at hl 0 rfl) ?_
  refine lv_iconst (v := 0) hx hb dX7_clear_11 (by decide) ?_
  obtain ⟨M3, eM3, hf⟩ := sq_e hf
  refine rp_i hC hw 42 (Nat.le_of_ble_eq_true rfl) rfl fd_X7_6 wf_X7_31 fp_X7_6 rfl rfl dX7_clear_12 eM3 (fun H locs hw => ?_)
  subst hf
  exact rtc_v hC hw dX7_clear_15
set_option maxRecDepth 100000 in
theorem c_X7_clear {l : Launch} {D : va_G} {cy : Nat → ClassId} {z0 : Nat} {ad : Nat → Nat} {u : Nat × Nat} {X : va_W} {z : mm_M} {M : mm_M} (hf : f_X7_clear M = z) : ct_v cx_T l yX7_clear (Cond.code yX7_clear cX7_clear 1 none) 0 0 D cy z0 ad u M X [.ref (ad 42)] z := by
  refine bgc_v (by decide) (fun p e s m below meth c hC hw => ?_)
  refine en_t (Nat.le_of_ble_eq_true rfl) (fun ls hl => ?_)
  have hl : lv_has ls 1 [(0, .ref (ad 42))] := hl
  exact k_X7_clear hC hf hw hl
set_option maxRecDepth 100000 in
set_option maxHeartbeats 4000000 in
theorem k_X6_isStaged_36 {p : Program} {l : Launch} {e : Env} {s : State} {m : MethodId} {args : Array Value} {below : List Frame} {meth : Method} {c : Code} {D : va_G} {cy : Nat → ClassId} {z0 : Nat} {ad : Nat → Nat} {X : va_W} {u : Nat × Nat} (hC : cx_C p s m args meth c cX6_isStaged "RhymedThen$Signs" (Cond.code yX6_isStaged cX6_isStaged 2 (some .boolean)) 2 (some .boolean)) {z : Int32} {M : mm_M} (hf : f_X6_isStaged_36 M = some z) {H : Heap} {locs : List Loc} (hw : wd_in cx_T D cy z0 ad u M X s H locs) {ls : Array Slot} (hl : lv_has ls 2 []) : W p l e { frames := 0, cells := 0, slots := 0, locals := 0 } s m args below meth c H locs 0 0 (MQ below (cq_i cx_T D cy z0 ad u X z M) args s 0 0 (fun q => z0 ≤ q)) (F0 m 36 ls []) := by
  have hx := hC.1
  have hb := hC.2.1
  unfold f_X6_isStaged_36 at hf
  refine lv_iconst (v := 1) hx hb dX6_isStaged_36 (by decide) ?_
  refine lv_goto (tgt := 41) hx hb dX6_isStaged_37 (by decide) ?_
  have hz := Option.some.inj hf
  subst hz
  exact rtc_z hC hw (Or.inr rfl) dX6_isStaged_41
set_option maxRecDepth 100000 in
set_option maxHeartbeats 4000000 in
theorem k_X6_isStaged {p : Program} {l : Launch} {e : Env} {s : State} {m : MethodId} {args : Array Value} {below : List Frame} {meth : Method} {c : Code} {D : va_G} {cy : Nat → ClassId} {z0 : Nat} {ad : Nat → Nat} {X : va_W} {u : Nat × Nat} (hC : cx_C p s m args meth c cX6_isStaged "RhymedThen$Signs" (Cond.code yX6_isStaged cX6_isStaged 2 (some .boolean)) 2 (some .boolean)) {z : Int32} {x1 : Int32} {M : mm_M} (hf : f_X6_isStaged x1 M = some z) {H : Heap} {locs : List Loc} (hw : wd_in cx_T D cy z0 ad u M X s H locs) {ls : Array Slot} (hl : lv_has ls 2 [(0, .ref (ad 19)), (1, .int x1)]) : W p l e { frames := 0, cells := 0, slots := 0, locals := 0 } s m args below meth c H locs 0 0 (MQ below (cq_i cx_T D cy z0 ad u X z M) args s 0 0 (fun q => z0 ≤ q)) (F0 m 0 ls []) := by
  have hx := hC.1
  have hb := hC.2.1
  unfold f_X6_isStaged at hf
  refine lv_aload_n hx hb dX6_isStaged_0 rfl (lv_at hl 0 rfl) ?_
  refine rg_i hC hw 19 (Nat.le_of_ble_eq_true rfl) rfl fd_X6_4 wf_X6_21 dX6_isStaged_1 ?_
  refine lv_iload_n hx hb dX6_isStaged_4 rfl (lv_at hl 1 rfl) ?_
  refine lv_ishr hx hb dX6_isStaged_5 ?_
  refine lv_iconst (v := 1) hx hb dX6_isStaged_6 (by decide) ?_
  refine lv_iand hx hb dX6_isStaged_7 ?_
  refine lv_if_eq (tgt := 40) hx hb dX6_isStaged_8 (by decide) (fun c1 => ?_) (fun c1 => ?_)
  · rw [if_pos c1] at hf
    refine lv_iconst (v := 0) hx hb dX6_isStaged_40 (by decide) ?_
    have hz := Option.some.inj hf
    subst hz
    exact rtc_z hC hw (Or.inl rfl) dX6_isStaged_41
  · rw [if_neg c1] at hf
    refine lv_aload_n hx hb dX6_isStaged_11 rfl (lv_at hl 0 rfl) ?_
    refine rg_p hC hw 19 (Nat.le_of_ble_eq_true rfl) rfl fd_X6_2 wf_X6_11 (q := 20) rfl dX6_isStaged_12 ?_
    refine lv_iload_n hx hb dX6_isStaged_15 rfl (lv_at hl 1 rfl) ?_
    obtain ⟨h2, hf⟩ := ck_e hf
    refine ra_S hC hw 20 (Nat.le_of_ble_eq_true rfl) rfl h2 dX6_isStaged_16 ?_
    refine rg_i hC hw (22 + x1.toNatClampNeg) (sg_lt (sg_ix h2)) (sg_kd (sg_ix h2)) fd_X5_0 wf_X6_84 dX6_isStaged_17 ?_
    refine lv_if_eq (tgt := 36) hx hb dX6_isStaged_20 (by decide) (fun c3 => ?_) (fun c3 => ?_)
    · rw [if_pos c3] at hf
      exact k_X6_isStaged_36 hC hf hw (lv_sub hl [] rfl)
    · rw [if_neg c3] at hf
      refine lv_aload_n hx hb dX6_isStaged_23 rfl (lv_at hl 0 rfl) ?_
      refine rg_p hC hw 19 (Nat.le_of_ble_eq_true rfl) rfl fd_X6_2 wf_X6_11 (q := 20) rfl dX6_isStaged_24 ?_
      refine lv_iload_n hx hb dX6_isStaged_27 rfl (lv_at hl 1 rfl) ?_
      obtain ⟨h4, hf⟩ := ck_e hf
      refine ra_S hC hw 20 (Nat.le_of_ble_eq_true rfl) rfl h4 dX6_isStaged_28 ?_
      refine rg_i hC hw (22 + x1.toNatClampNeg) (sg_lt (sg_ix h4)) (sg_kd (sg_ix h4)) fd_X5_0 wf_X6_84 dX6_isStaged_29 ?_
      refine lv_iconst (v := 1) hx hb dX6_isStaged_32 (by decide) ?_
      refine lv_icmp_ne (tgt := 40) hx hb dX6_isStaged_33 (by decide) (fun c5 => ?_) (fun c5 => ?_)
      · rw [if_neg c5] at hf
        refine lv_iconst (v := 0) hx hb dX6_isStaged_40 (by decide) ?_
        have hz := Option.some.inj hf
        subst hz
        exact rtc_z hC hw (Or.inl rfl) dX6_isStaged_41
      · rw [if_pos c5] at hf
        exact k_X6_isStaged_36 hC hf hw (lv_sub hl [] rfl)
set_option maxRecDepth 100000 in
theorem c_X6_isStaged {l : Launch} {D : va_G} {cy : Nat → ClassId} {z0 : Nat} {ad : Nat → Nat} {u : Nat × Nat} {X : va_W} {z : Int32} {x1 : Int32} {M : mm_M} (hf : f_X6_isStaged x1 M = some z) : ct_i cx_T l yX6_isStaged (Cond.code yX6_isStaged cX6_isStaged 2 (some .boolean)) 0 0 D cy z0 ad u M X [.ref (ad 19), .int x1] z M := by
  refine bgc_i (by decide) (fun p e s m below meth c hC hw => ?_)
  refine en_t (Nat.le_of_ble_eq_true rfl) (fun ls hl => ?_)
  have hl : lv_has ls 2 [(0, .ref (ad 19)), (1, .int x1)] := hl
  exact k_X6_isStaged hC hf hw hl
set_option maxRecDepth 100000 in
set_option maxHeartbeats 4000000 in
theorem k_X7_invite {p : Program} {l : Launch} {e : Env} {s : State} {m : MethodId} {args : Array Value} {below : List Frame} {meth : Method} {c : Code} {D : va_G} {cy : Nat → ClassId} {z0 : Nat} {ad : Nat → Nat} {X : va_W} {u : Nat × Nat} (hC : cx_C p s m args meth c cX7_invite "RhymedThen$Stage" (Cond.code yX7_invite cX7_invite 2 none) 2 none) {z : mm_M} {x1 : Int32} {M : mm_M} (hf : f_X7_invite x1 M = z) {H : Heap} {locs : List Loc} (hw : wd_in cx_T D cy z0 ad u M X s H locs) {ls : Array Slot} (hl : lv_has ls 2 [(0, .ref (ad 42)), (1, .int x1)]) : W p l e { frames := 0, cells := 0, slots := 0, locals := 0 } s m args below meth c H locs 0 0 (MQ below (cq_v cx_T D cy z0 ad u X z) args s 0 0 (fun q => z0 ≤ q)) (F0 m 0 ls []) := by
  have hx := hC.1
  have hb := hC.2.1
  unfold f_X7_invite at hf
  refine lv_aload_n hx hb dX7_invite_0 rfl (lv_at hl 0 rfl) ?_
  refine lv_dup hx hb dX7_invite_1 rfl ?_
  refine rg_i hC hw 42 (Nat.le_of_ble_eq_true rfl) rfl fd_X7_0 wf_X7_9 dX7_invite_2 ?_
  refine lv_iconst (v := 1) hx hb dX7_invite_5 (by decide) ?_
  refine lv_iload_n hx hb dX7_invite_6 rfl (lv_at hl 1 rfl) ?_
  refine lv_ishl hx hb dX7_invite_7 ?_
  refine lv_ior hx hb dX7_invite_8 ?_
  obtain ⟨M1, eM1, hf⟩ := sq_e hf
  refine rp_i hC hw 42 (Nat.le_of_ble_eq_true rfl) rfl fd_X7_0 wf_X7_9 fp_X7_0 rfl rfl dX7_invite_9 eM1 (fun H locs hw => ?_)
  subst hf
  exact rtc_v hC hw dX7_invite_12
set_option maxRecDepth 100000 in
theorem c_X7_invite {l : Launch} {D : va_G} {cy : Nat → ClassId} {z0 : Nat} {ad : Nat → Nat} {u : Nat × Nat} {X : va_W} {z : mm_M} {x1 : Int32} {M : mm_M} (hf : f_X7_invite x1 M = z) : ct_v cx_T l yX7_invite (Cond.code yX7_invite cX7_invite 2 none) 0 0 D cy z0 ad u M X [.ref (ad 42), .int x1] z := by
  refine bgc_v (by decide) (fun p e s m below meth c hC hw => ?_)
  refine en_t (Nat.le_of_ble_eq_true rfl) (fun ls hl => ?_)
  have hl : lv_has ls 2 [(0, .ref (ad 42)), (1, .int x1)] := hl
  exact k_X7_invite hC hf hw hl
set_option maxRecDepth 100000 in
set_option maxHeartbeats 4000000 in
theorem k_X7_seat_48 {p : Program} {l : Launch} {e : Env} {s : State} {m : MethodId} {args : Array Value} {below : List Frame} {meth : Method} {c : Code} {D : va_G} {cy : Nat → ClassId} {z0 : Nat} {ad : Nat → Nat} {X : va_W} {u : Nat × Nat} (hC : cx_C p s m args meth c cX7_seat "RhymedThen$Stage" (Cond.code yX7_seat cX7_seat 2 none) 2 none) {z : mm_M} {x1 : Int32} {M : mm_M} {q2 : Int32 → mm_M → Option mm_M} (hq2 : ∀ (x1 : Int32) (M : mm_M) (H : Heap) (locs : List Loc) (ls : Array Slot), q2 x1 M = some z → wd_in cx_T D cy z0 ad u M X s H locs → lv_has ls 2 [(0, .ref (ad 42)), (1, .int x1)] → W p l e { frames := 0, cells := 0, slots := 0, locals := 0 } s m args below meth c H locs 0 0 (MQ below (cq_v cx_T D cy z0 ad u X z) args s 0 0 (fun q => z0 ≤ q)) (F0 m 2 ls [])) (hf : f_X7_seat_48 q2 x1 M = some z) {H : Heap} {locs : List Loc} (hw : wd_in cx_T D cy z0 ad u M X s H locs) {ls : Array Slot} (hl : lv_has ls 2 [(0, .ref (ad 42)), (1, .int x1)]) : W p l e { frames := 0, cells := 0, slots := 0, locals := 0 } s m args below meth c H locs 0 0 (MQ below (cq_v cx_T D cy z0 ad u X z) args s 0 0 (fun q => z0 ≤ q)) (F0 m 48 ls []) := by
  have hx := hC.1
  have hb := hC.2.1
  unfold f_X7_seat_48 at hf
  obtain ⟨y7, ey7, hf⟩ := sq_e hf
  refine lv_iinc (v := y7) (lv' := [(1, .int y7), (0, .ref (ad 42))]) hx hb dX7_seat_48 hl (k := 1) rfl (by rw [ey7]; rfl) (by decide) rfl (fun ls hl => ?_)
  refine lv_goto (tgt := 2) hx hb dX7_seat_51 (by decide) ?_
  exact hq2 _ _ _ _ _ hf hw (lv_sub hl [1, 0] rfl)
set_option maxRecDepth 100000 in
set_option maxHeartbeats 4000000 in
theorem k_X7_seat_2 {p : Program} {l : Launch} {e : Env} {s : State} {m : MethodId} {args : Array Value} {below : List Frame} {meth : Method} {c : Code} {D : va_G} {cy : Nat → ClassId} {z0 : Nat} {ad : Nat → Nat} {X : va_W} {u : Nat × Nat} (hC : cx_C p s m args meth c cX7_seat "RhymedThen$Stage" (Cond.code yX7_seat cX7_seat 2 none) 2 none) {z : mm_M} {x1 : Int32} {M : mm_M} {q2 : Int32 → mm_M → Option mm_M} (hq2 : ∀ (x1 : Int32) (M : mm_M) (H : Heap) (locs : List Loc) (ls : Array Slot), q2 x1 M = some z → wd_in cx_T D cy z0 ad u M X s H locs → lv_has ls 2 [(0, .ref (ad 42)), (1, .int x1)] → W p l e { frames := 0, cells := 0, slots := 0, locals := 0 } s m args below meth c H locs 0 0 (MQ below (cq_v cx_T D cy z0 ad u X z) args s 0 0 (fun q => z0 ≤ q)) (F0 m 2 ls [])) (hf : f_X7_seat_2 q2 x1 M = some z) {H : Heap} {locs : List Loc} (hw : wd_in cx_T D cy z0 ad u M X s H locs) {ls : Array Slot} (hl : lv_has ls 2 [(0, .ref (ad 42)), (1, .int x1)]) : W p l e { frames := 0, cells := 0, slots := 0, locals := 0 } s m args below meth c H locs 0 0 (MQ below (cq_v cx_T D cy z0 ad u X z) args s 0 0 (fun q => z0 ≤ q)) (F0 m 2 ls []) := by
  have hx := hC.1
  have hb := hC.2.1
  unfold f_X7_seat_2 at hf
  refine lv_iload_n hx hb dX7_seat_2 rfl (lv_at hl 1 rfl) ?_
  refine lv_bipush (v := 20) hx hb dX7_seat_3 (by decide) ?_
  refine lv_icmp_ge (tgt := 54) hx hb dX7_seat_5 (by decide) (fun c1 => ?_) (fun c1 => ?_)
  · rw [if_pos c1] at hf
    have hz := Option.some.inj hf
    subst hz
    exact rtc_v hC hw dX7_seat_54
  · rw [if_neg c1] at hf
    refine lv_aload_n hx hb dX7_seat_8 rfl (lv_at hl 0 rfl) ?_
    refine rg_i hC hw 42 (Nat.le_of_ble_eq_true rfl) rfl fd_X7_0 wf_X7_9 dX7_seat_9 ?_
    refine lv_iload_n hx hb dX7_seat_12 rfl (lv_at hl 1 rfl) ?_
    refine lv_ishr hx hb dX7_seat_13 ?_
    refine lv_iconst (v := 1) hx hb dX7_seat_14 (by decide) ?_
    refine lv_iand hx hb dX7_seat_15 ?_
    refine lv_if_eq (tgt := 48) hx hb dX7_seat_16 (by decide) (fun c2 => ?_) (fun c2 => ?_)
    · rw [if_pos c2] at hf
      exact k_X7_seat_48 hC hq2 hf hw (lv_sub hl [0, 1] rfl)
    · rw [if_neg c2] at hf
      refine lv_aload_n hx hb dX7_seat_19 rfl (lv_at hl 0 rfl) ?_
      refine rg_i hC hw 42 (Nat.le_of_ble_eq_true rfl) rfl fd_X7_1 wf_X7_15 dX7_seat_20 ?_
      refine lv_bipush (v := 7) hx hb dX7_seat_23 (by decide) ?_
      refine lv_icmp_ge (tgt := 48) hx hb dX7_seat_25 (by decide) (fun c3 => ?_) (fun c3 => ?_)
      · rw [if_pos c3] at hf
        exact k_X7_seat_48 hC hq2 hf hw (lv_sub hl [0, 1] rfl)
      · rw [if_neg c3] at hf
        refine lv_aload_n hx hb dX7_seat_28 rfl (lv_at hl 0 rfl) ?_
        refine rg_p hC hw 42 (Nat.le_of_ble_eq_true rfl) rfl fd_X7_2 wf_X7_18 (q := 43) rfl dX7_seat_29 ?_
        refine lv_aload_n hx hb dX7_seat_32 rfl (lv_at hl 0 rfl) ?_
        refine rg_i hC hw 42 (Nat.le_of_ble_eq_true rfl) rfl fd_X7_1 wf_X7_15 dX7_seat_33 ?_
        refine lv_iload_n hx hb dX7_seat_36 rfl (lv_at hl 1 rfl) ?_
        obtain ⟨h4, hf⟩ := ck_e hf
        obtain ⟨M5, eM5, hf⟩ := sq_e hf
        refine rs_i hC hw 43 (Nat.le_of_ble_eq_true rfl) rfl h4 dX7_seat_37 eM5 (fun H locs hw => ?_)
        refine lv_aload_n hx hb dX7_seat_38 rfl (lv_at hl 0 rfl) ?_
        refine lv_dup hx hb dX7_seat_39 rfl ?_
        refine rg_i hC hw 42 (Nat.le_of_ble_eq_true rfl) rfl fd_X7_1 wf_X7_15 dX7_seat_40 ?_
        refine lv_iconst (v := 1) hx hb dX7_seat_43 (by decide) ?_
        refine lv_iadd hx hb dX7_seat_44 ?_
        obtain ⟨M6, eM6, hf⟩ := sq_e hf
        refine rp_i hC hw 42 (Nat.le_of_ble_eq_true rfl) rfl fd_X7_1 wf_X7_15 fp_X7_1 rfl rfl dX7_seat_45 eM6 (fun H locs hw => ?_)
        exact k_X7_seat_48 hC hq2 hf hw (lv_sub hl [0, 1] rfl)
set_option maxRecDepth 100000 in
set_option maxHeartbeats 4000000 in
theorem k_X7_seat_2l {p : Program} {l : Launch} {e : Env} {s : State} {m : MethodId} {args : Array Value} {below : List Frame} {meth : Method} {c : Code} {D : va_G} {cy : Nat → ClassId} {z0 : Nat} {ad : Nat → Nat} {X : va_W} {u : Nat × Nat} (hC : cx_C p s m args meth c cX7_seat "RhymedThen$Stage" (Cond.code yX7_seat cX7_seat 2 none) 2 none) {z : mm_M} : ∀ (n : Nat) (x1 : Int32) (M : mm_M) (H : Heap) (locs : List Loc) (ls : Array Slot), f_X7_seat_2l n x1 M = some z → wd_in cx_T D cy z0 ad u M X s H locs → lv_has ls 2 [(0, .ref (ad 42)), (1, .int x1)] → W p l e { frames := 0, cells := 0, slots := 0, locals := 0 } s m args below meth c H locs 0 0 (MQ below (cq_v cx_T D cy z0 ad u X z) args s 0 0 (fun q => z0 ≤ q)) (F0 m 2 ls []) := by
  intro n
  induction n with
  | zero => intro x1 M H locs ls hf; exact absurd hf (by simp [f_X7_seat_2l])
  | succ n ih => intro x1 M H locs ls hf hw hl; exact k_X7_seat_2 hC ih hf hw hl
set_option maxRecDepth 100000 in
set_option maxHeartbeats 4000000 in
theorem k_X7_seat {p : Program} {l : Launch} {e : Env} {s : State} {m : MethodId} {args : Array Value} {below : List Frame} {meth : Method} {c : Code} {D : va_G} {cy : Nat → ClassId} {z0 : Nat} {ad : Nat → Nat} {X : va_W} {u : Nat × Nat} (hC : cx_C p s m args meth c cX7_seat "RhymedThen$Stage" (Cond.code yX7_seat cX7_seat 2 none) 2 none) {z : mm_M} {M : mm_M} (hf : f_X7_seat M = some z) {H : Heap} {locs : List Loc} (hw : wd_in cx_T D cy z0 ad u M X s H locs) {ls : Array Slot} (hl : lv_has ls 2 [(0, .ref (ad 42))]) : W p l e { frames := 0, cells := 0, slots := 0, locals := 0 } s m args below meth c H locs 0 0 (MQ below (cq_v cx_T D cy z0 ad u X z) args s 0 0 (fun q => z0 ≤ q)) (F0 m 0 ls []) := by
  have hx := hC.1
  have hb := hC.2.1
  unfold f_X7_seat at hf
  refine lv_iconst (v := 0) hx hb dX7_seat_0 (by decide) ?_
  refine lv_istore_n (lv' := [(1, .int 0), (0, .ref (ad 42))]) hx hb dX7_seat_1 rfl hl (by decide) rfl (fun ls hl => ?_)
  exact k_X7_seat_2l hC fu_ _ _ _ _ _ hf hw (lv_sub hl [1, 0] rfl)
set_option maxRecDepth 100000 in
theorem c_X7_seat {l : Launch} {D : va_G} {cy : Nat → ClassId} {z0 : Nat} {ad : Nat → Nat} {u : Nat × Nat} {X : va_W} {z : mm_M} {M : mm_M} (hf : f_X7_seat M = some z) : ct_v cx_T l yX7_seat (Cond.code yX7_seat cX7_seat 2 none) 0 0 D cy z0 ad u M X [.ref (ad 42)] z := by
  refine bgc_v (by decide) (fun p e s m below meth c hC hw => ?_)
  refine en_t (Nat.le_of_ble_eq_true rfl) (fun ls hl => ?_)
  have hl : lv_has ls 2 [(0, .ref (ad 42))] := hl
  exact k_X7_seat hC hf hw hl
set_option maxRecDepth 100000 in
set_option maxHeartbeats 4000000 in
theorem k_X7_seatOf_2 {p : Program} {l : Launch} {e : Env} {s : State} {m : MethodId} {args : Array Value} {below : List Frame} {meth : Method} {c : Code} {D : va_G} {cy : Nat → ClassId} {z0 : Nat} {ad : Nat → Nat} {X : va_W} {u : Nat × Nat} (hC : cx_C p s m args meth c cX7_seatOf "RhymedThen$Stage" (Cond.code yX7_seatOf cX7_seatOf 3 (some .int)) 3 (some .int)) {z : Int32} {x1 : Int32} {x2 : Int32} {M : mm_M} {q2 : Int32 → Int32 → Option Int32} (hq2 : ∀ (x1 : Int32) (x2 : Int32) (H : Heap) (locs : List Loc) (ls : Array Slot), q2 x1 x2 = some z → wd_in cx_T D cy z0 ad u M X s H locs → lv_has ls 3 [(0, .ref (ad 42)), (1, .int x1), (2, .int x2)] → W p l e { frames := 0, cells := 0, slots := 0, locals := 0 } s m args below meth c H locs 0 0 (MQ below (cq_i cx_T D cy z0 ad u X z M) args s 0 0 (fun q => z0 ≤ q)) (F0 m 2 ls [])) (hf : f_X7_seatOf_2 q2 x1 x2 M = some z) {H : Heap} {locs : List Loc} (hw : wd_in cx_T D cy z0 ad u M X s H locs) {ls : Array Slot} (hl : lv_has ls 3 [(0, .ref (ad 42)), (1, .int x1), (2, .int x2)]) : W p l e { frames := 0, cells := 0, slots := 0, locals := 0 } s m args below meth c H locs 0 0 (MQ below (cq_i cx_T D cy z0 ad u X z M) args s 0 0 (fun q => z0 ≤ q)) (F0 m 2 ls []) := by
  have hx := hC.1
  have hb := hC.2.1
  unfold f_X7_seatOf_2 at hf
  refine lv_iload_n hx hb dX7_seatOf_2 rfl (lv_at hl 2 rfl) ?_
  refine lv_aload_n hx hb dX7_seatOf_3 rfl (lv_at hl 0 rfl) ?_
  refine rg_i hC hw 42 (Nat.le_of_ble_eq_true rfl) rfl fd_X7_1 wf_X7_15 dX7_seatOf_4 ?_
  refine lv_icmp_ge (tgt := 28) hx hb dX7_seatOf_7 (by decide) (fun c1 => ?_) (fun c1 => ?_)
  · rw [if_pos c1] at hf
    refine lv_iconst (v := (-1)) hx hb dX7_seatOf_28 (by decide) ?_
    have hz := Option.some.inj hf
    subst hz
    exact rtc_i hC hw dX7_seatOf_29
  · rw [if_neg c1] at hf
    refine lv_aload_n hx hb dX7_seatOf_10 rfl (lv_at hl 0 rfl) ?_
    refine rg_p hC hw 42 (Nat.le_of_ble_eq_true rfl) rfl fd_X7_2 wf_X7_18 (q := 43) rfl dX7_seatOf_11 ?_
    refine lv_iload_n hx hb dX7_seatOf_14 rfl (lv_at hl 2 rfl) ?_
    obtain ⟨h2, hf⟩ := ck_e hf
    refine ra_i hC hw 43 (Nat.le_of_ble_eq_true rfl) rfl h2 dX7_seatOf_15 ?_
    refine lv_iload_n hx hb dX7_seatOf_16 rfl (lv_at hl 1 rfl) ?_
    refine lv_icmp_ne (tgt := 22) hx hb dX7_seatOf_17 (by decide) (fun c3 => ?_) (fun c3 => ?_)
    · rw [if_neg c3] at hf
      obtain ⟨y4, ey4, hf⟩ := sq_e hf
      refine lv_iinc (v := y4) (lv' := [(2, .int y4), (0, .ref (ad 42)), (1, .int x1)]) hx hb dX7_seatOf_22 hl (k := 2) rfl (by rw [ey4]; rfl) (by decide) rfl (fun ls hl => ?_)
      refine lv_goto (tgt := 2) hx hb dX7_seatOf_25 (by decide) ?_
      exact hq2 _ _ _ _ _ hf hw (lv_sub hl [1, 2, 0] rfl)
    · rw [if_pos c3] at hf
      refine lv_iload_n hx hb dX7_seatOf_20 rfl (lv_at hl 2 rfl) ?_
      have hz := Option.some.inj hf
      subst hz
      exact rtc_i hC hw dX7_seatOf_21
set_option maxRecDepth 100000 in
set_option maxHeartbeats 4000000 in
theorem k_X7_seatOf_2l {p : Program} {l : Launch} {e : Env} {s : State} {m : MethodId} {args : Array Value} {below : List Frame} {meth : Method} {c : Code} {D : va_G} {cy : Nat → ClassId} {z0 : Nat} {ad : Nat → Nat} {X : va_W} {u : Nat × Nat} (hC : cx_C p s m args meth c cX7_seatOf "RhymedThen$Stage" (Cond.code yX7_seatOf cX7_seatOf 3 (some .int)) 3 (some .int)) {z : Int32} {M : mm_M} : ∀ (n : Nat) (x1 : Int32) (x2 : Int32) (H : Heap) (locs : List Loc) (ls : Array Slot), f_X7_seatOf_2l M n x1 x2 = some z → wd_in cx_T D cy z0 ad u M X s H locs → lv_has ls 3 [(0, .ref (ad 42)), (1, .int x1), (2, .int x2)] → W p l e { frames := 0, cells := 0, slots := 0, locals := 0 } s m args below meth c H locs 0 0 (MQ below (cq_i cx_T D cy z0 ad u X z M) args s 0 0 (fun q => z0 ≤ q)) (F0 m 2 ls []) := by
  intro n
  induction n with
  | zero => intro x1 x2 H locs ls hf; exact absurd hf (by simp [f_X7_seatOf_2l])
  | succ n ih => intro x1 x2 H locs ls hf hw hl; exact k_X7_seatOf_2 hC ih hf hw hl
set_option maxRecDepth 100000 in
set_option maxHeartbeats 4000000 in
theorem k_X7_seatOf {p : Program} {l : Launch} {e : Env} {s : State} {m : MethodId} {args : Array Value} {below : List Frame} {meth : Method} {c : Code} {D : va_G} {cy : Nat → ClassId} {z0 : Nat} {ad : Nat → Nat} {X : va_W} {u : Nat × Nat} (hC : cx_C p s m args meth c cX7_seatOf "RhymedThen$Stage" (Cond.code yX7_seatOf cX7_seatOf 3 (some .int)) 3 (some .int)) {z : Int32} {x1 : Int32} {M : mm_M} (hf : f_X7_seatOf x1 M = some z) {H : Heap} {locs : List Loc} (hw : wd_in cx_T D cy z0 ad u M X s H locs) {ls : Array Slot} (hl : lv_has ls 3 [(0, .ref (ad 42)), (1, .int x1)]) : W p l e { frames := 0, cells := 0, slots := 0, locals := 0 } s m args below meth c H locs 0 0 (MQ below (cq_i cx_T D cy z0 ad u X z M) args s 0 0 (fun q => z0 ≤ q)) (F0 m 0 ls []) := by
  have hx := hC.1
  have hb := hC.2.1
  unfold f_X7_seatOf at hf
  refine lv_iconst (v := 0) hx hb dX7_seatOf_0 (by decide) ?_
  refine lv_istore_n (lv' := [(2, .int 0), (0, .ref (ad 42)), (1, .int x1)]) hx hb dX7_seatOf_1 rfl hl (by decide) rfl (fun ls hl => ?_)
  exact k_X7_seatOf_2l hC fu_ _ _ _ _ _ hf hw (lv_sub hl [1, 2, 0] rfl)
set_option maxRecDepth 100000 in
theorem c_X7_seatOf {l : Launch} {D : va_G} {cy : Nat → ClassId} {z0 : Nat} {ad : Nat → Nat} {u : Nat × Nat} {X : va_W} {z : Int32} {x1 : Int32} {M : mm_M} (hf : f_X7_seatOf x1 M = some z) : ct_i cx_T l yX7_seatOf (Cond.code yX7_seatOf cX7_seatOf 3 (some .int)) 0 0 D cy z0 ad u M X [.ref (ad 42), .int x1] z M := by
  refine bgc_i (by decide) (fun p e s m below meth c hC hw => ?_)
  refine en_t (Nat.le_of_ble_eq_true rfl) (fun ls hl => ?_)
  have hl : lv_has ls 3 [(0, .ref (ad 42)), (1, .int x1)] := hl
  exact k_X7_seatOf hC hf hw hl
set_option maxRecDepth 100000 in
set_option maxHeartbeats 4000000 in
theorem k_X7_addPair_161 {p : Program} {l : Launch} {e : Env} {s : State} {m : MethodId} {args : Array Value} {below : List Frame} {meth : Method} {c : Code} {D : va_G} {cy : Nat → ClassId} {z0 : Nat} {ad : Nat → Nat} {X : va_W} {u : Nat × Nat} (hC : cx_C p s m args meth c cX7_addPair "RhymedThen$Stage" (Cond.code yX7_addPair cX7_addPair 11 none) 11 none) {z : mm_M} {k1 : Nat} {x5 : Int32} {x6 : Int32} {t1 : Int32} {t2 : Int32} {t3 : Int32} {M : mm_M} (hk1 : sg_ok k1) {q83 : Nat → Int32 → Int32 → mm_M → Option mm_M} (hq83 : ∀ (k1 : Nat) (x5 : Int32) (x6 : Int32) (M : mm_M) (H : Heap) (locs : List Loc) (ls : Array Slot), sg_ok k1 → q83 k1 x5 x6 M = some z → wd_in cx_T D cy z0 ad u M X s H locs → lv_has ls 11 [(0, .ref (ad 42)), (1, .ref (ad k1)), (2, .ref (ad 5)), (5, .int x5), (6, .int x6)] → W p l e { frames := 3, cells := 0, slots := 0, locals := 72 } s m args below meth c H locs 0 0 (MQ below (cq_v cx_T D cy z0 ad u X z) args s 0 0 (fun q => z0 ≤ q)) (F0 m 83 ls [])) (hf : f_X7_addPair_161 q83 k1 x5 x6 t1 t2 t3 M = some z) {H : Heap} {locs : List Loc} (hw : wd_in cx_T D cy z0 ad u M X s H locs) {ls : Array Slot} (hl : lv_has ls 11 [(0, .ref (ad 42)), (1, .ref (ad k1)), (2, .ref (ad 5)), (5, .int x5), (6, .int x6)]) : W p l e { frames := 3, cells := 0, slots := 0, locals := 72 } s m args below meth c H locs 0 0 (MQ below (cq_v cx_T D cy z0 ad u X z) args s 0 0 (fun q => z0 ≤ q)) (F0 m 161 ls [.int t3, .int t2, .int t1, .ref (ad 49)]) := by
  have hx := hC.1
  have hb := hC.2.1
  unfold f_X7_addPair_161 at hf
  refine lv_ior hx hb dX7_addPair_161 ?_
  obtain ⟨h24, hf⟩ := ck_e hf
  obtain ⟨M25, eM25, hf⟩ := sq_e hf
  refine rs_i hC hw 49 (Nat.le_of_ble_eq_true rfl) rfl h24 dX7_addPair_162 eM25 (fun H locs hw => ?_)
  obtain ⟨y26, ey26, hf⟩ := sq_e hf
  refine lv_iinc (v := y26) (lv' := [(6, .int y26), (0, .ref (ad 42)), (1, .ref (ad k1)), (2, .ref (ad 5)), (5, .int x5)]) hx hb dX7_addPair_163 hl (k := 4) rfl (by rw [ey26]; rfl) (by decide) rfl (fun ls hl => ?_)
  refine lv_goto (tgt := 83) hx hb dX7_addPair_166 (by decide) ?_
  exact hq83 _ _ _ _ _ _ _ hk1 hf hw (lv_sub hl [1, 2, 3, 4, 0] rfl)
set_option maxRecDepth 100000 in
set_option maxHeartbeats 4000000 in
theorem k_X7_addPair_169 {p : Program} {l : Launch} {e : Env} {s : State} {m : MethodId} {args : Array Value} {below : List Frame} {meth : Method} {c : Code} {D : va_G} {cy : Nat → ClassId} {z0 : Nat} {ad : Nat → Nat} {X : va_W} {u : Nat × Nat} (hC : cx_C p s m args meth c cX7_addPair "RhymedThen$Stage" (Cond.code yX7_addPair cX7_addPair 11 none) 11 none) {z : mm_M} {k1 : Nat} {x5 : Int32} {M : mm_M} (hk1 : sg_ok k1) {q74 : Nat → Int32 → mm_M → Option mm_M} (hq74 : ∀ (k1 : Nat) (x5 : Int32) (M : mm_M) (H : Heap) (locs : List Loc) (ls : Array Slot), sg_ok k1 → q74 k1 x5 M = some z → wd_in cx_T D cy z0 ad u M X s H locs → lv_has ls 11 [(0, .ref (ad 42)), (1, .ref (ad k1)), (2, .ref (ad 5)), (5, .int x5)] → W p l e { frames := 3, cells := 0, slots := 0, locals := 72 } s m args below meth c H locs 0 0 (MQ below (cq_v cx_T D cy z0 ad u X z) args s 0 0 (fun q => z0 ≤ q)) (F0 m 74 ls [])) (hf : f_X7_addPair_169 q74 k1 x5 M = some z) {H : Heap} {locs : List Loc} (hw : wd_in cx_T D cy z0 ad u M X s H locs) {ls : Array Slot} (hl : lv_has ls 11 [(0, .ref (ad 42)), (1, .ref (ad k1)), (2, .ref (ad 5)), (5, .int x5)]) : W p l e { frames := 3, cells := 0, slots := 0, locals := 72 } s m args below meth c H locs 0 0 (MQ below (cq_v cx_T D cy z0 ad u X z) args s 0 0 (fun q => z0 ≤ q)) (F0 m 169 ls []) := by
  have hx := hC.1
  have hb := hC.2.1
  unfold f_X7_addPair_169 at hf
  obtain ⟨y23, ey23, hf⟩ := sq_e hf
  refine lv_iinc (v := y23) (lv' := [(5, .int y23), (0, .ref (ad 42)), (1, .ref (ad k1)), (2, .ref (ad 5))]) hx hb dX7_addPair_169 hl (k := 3) rfl (by rw [ey23]; rfl) (by decide) rfl (fun ls hl => ?_)
  refine lv_goto (tgt := 74) hx hb dX7_addPair_172 (by decide) ?_
  exact hq74 _ _ _ _ _ _ hk1 hf hw (lv_sub hl [1, 2, 3, 0] rfl)
set_option maxRecDepth 100000 in
set_option maxHeartbeats 4000000 in
theorem k_X7_addPair_83 {p : Program} {l : Launch} {e : Env} {s : State} {m : MethodId} {args : Array Value} {below : List Frame} {meth : Method} {c : Code} {D : va_G} {cy : Nat → ClassId} {z0 : Nat} {ad : Nat → Nat} {X : va_W} {u : Nat × Nat} (hC : cx_C p s m args meth c cX7_addPair "RhymedThen$Stage" (Cond.code yX7_addPair cX7_addPair 11 none) 11 none) {z : mm_M} {k1 : Nat} {x5 : Int32} {x6 : Int32} {M : mm_M} (hk1 : sg_ok k1) {q74 : Nat → Int32 → mm_M → Option mm_M} (hq74 : ∀ (k1 : Nat) (x5 : Int32) (M : mm_M) (H : Heap) (locs : List Loc) (ls : Array Slot), sg_ok k1 → q74 k1 x5 M = some z → wd_in cx_T D cy z0 ad u M X s H locs → lv_has ls 11 [(0, .ref (ad 42)), (1, .ref (ad k1)), (2, .ref (ad 5)), (5, .int x5)] → W p l e { frames := 3, cells := 0, slots := 0, locals := 72 } s m args below meth c H locs 0 0 (MQ below (cq_v cx_T D cy z0 ad u X z) args s 0 0 (fun q => z0 ≤ q)) (F0 m 74 ls [])) {q83 : Nat → Int32 → Int32 → mm_M → Option mm_M} (hq83 : ∀ (k1 : Nat) (x5 : Int32) (x6 : Int32) (M : mm_M) (H : Heap) (locs : List Loc) (ls : Array Slot), sg_ok k1 → q83 k1 x5 x6 M = some z → wd_in cx_T D cy z0 ad u M X s H locs → lv_has ls 11 [(0, .ref (ad 42)), (1, .ref (ad k1)), (2, .ref (ad 5)), (5, .int x5), (6, .int x6)] → W p l e { frames := 3, cells := 0, slots := 0, locals := 72 } s m args below meth c H locs 0 0 (MQ below (cq_v cx_T D cy z0 ad u X z) args s 0 0 (fun q => z0 ≤ q)) (F0 m 83 ls [])) (hf : f_X7_addPair_83 q74 q83 k1 x5 x6 M = some z) {H : Heap} {locs : List Loc} (hw : wd_in cx_T D cy z0 ad u M X s H locs) {ls : Array Slot} (hl : lv_has ls 11 [(0, .ref (ad 42)), (1, .ref (ad k1)), (2, .ref (ad 5)), (5, .int x5), (6, .int x6)]) : W p l e { frames := 3, cells := 0, slots := 0, locals := 72 } s m args below meth c H locs 0 0 (MQ below (cq_v cx_T D cy z0 ad u X z) args s 0 0 (fun q => z0 ≤ q)) (F0 m 83 ls []) := by
  have hx := hC.1
  have hb := hC.2.1
  unfold f_X7_addPair_83 at hf
  refine lv_iload hx hb dX7_addPair_83 (lv_at hl 4 rfl) ?_
  refine lv_iconst (v := 3) hx hb dX7_addPair_85 (by decide) ?_
  refine lv_icmp_ge (tgt := 169) hx hb dX7_addPair_86 (by decide) (fun c14 => ?_) (fun c14 => ?_)
  · rw [if_pos c14] at hf
    exact k_X7_addPair_169 hC hk1 hq74 hf hw (lv_sub hl [0, 1, 2, 3] rfl)
  · rw [if_neg c14] at hf
    refine lv_aload_n hx hb dX7_addPair_89 rfl (lv_at hl 2 rfl) ?_
    refine lv_aload_n hx hb dX7_addPair_90 rfl (lv_at hl 0 rfl) ?_
    refine rg_p hC hw 42 (Nat.le_of_ble_eq_true rfl) rfl fd_X7_4 wf_X7_25 (q := 45) rfl dX7_addPair_91 ?_
    refine lv_iload hx hb dX7_addPair_94 (lv_at hl 3 rfl) ?_
    obtain ⟨h15, hf⟩ := ck_e hf
    refine ra_i hC hw 45 (Nat.le_of_ble_eq_true rfl) rfl h15 dX7_addPair_96 ?_
    refine lv_aload_n hx hb dX7_addPair_97 rfl (lv_at hl 1 rfl) ?_
    refine rg_i hC hw k1 (sg_lt hk1) (sg_kd hk1) fd_X5_1 wf_X7_43 dX7_addPair_98 ?_
    obtain ⟨z16, ez16, hf⟩ := bd_e hf
    refine clc_Vl hC hw (c_X9_formOn ez16) hd_X9_formOn cw_X7_55 (Nat.le_of_ble_eq_true rfl) rfl rfl (rest := []) hl.1 rfl (Nat.le_of_ble_eq_true rfl) ⟨Nat.le_of_ble_eq_true rfl, Nat.le_of_ble_eq_true rfl⟩ ⟨Nat.zero_le _, Nat.zero_le _⟩ rfl dX7_addPair_101 (fun H locs hw => ?_)
    refine lv_lstore (lv' := [(7, .long z16), (0, .ref (ad 42)), (1, .ref (ad k1)), (2, .ref (ad 5)), (5, .int x5), (6, .int x6)]) hx hb dX7_addPair_104 hl (by decide) rfl (fun ls hl => ?_)
    refine lv_aload_n hx hb dX7_addPair_106 rfl (lv_at hl 3 rfl) ?_
    refine lv_aload_n hx hb dX7_addPair_107 rfl (lv_at hl 1 rfl) ?_
    refine rg_p hC hw 42 (Nat.le_of_ble_eq_true rfl) rfl fd_X7_4 wf_X7_25 (q := 45) rfl dX7_addPair_108 ?_
    refine lv_iload hx hb dX7_addPair_111 (lv_at hl 5 rfl) ?_
    obtain ⟨h17, hf⟩ := ck_e hf
    refine ra_i hC hw 45 (Nat.le_of_ble_eq_true rfl) rfl h17 dX7_addPair_113 ?_
    refine lv_aload_n hx hb dX7_addPair_114 rfl (lv_at hl 2 rfl) ?_
    refine rg_i hC hw k1 (sg_lt hk1) (sg_kd hk1) fd_X5_2 wf_X7_52 dX7_addPair_115 ?_
    obtain ⟨z18, ez18, hf⟩ := bd_e hf
    refine clc_Vl hC hw (c_X9_formOn ez18) hd_X9_formOn cw_X7_55 (Nat.le_of_ble_eq_true rfl) rfl rfl (rest := []) hl.1 rfl (Nat.le_of_ble_eq_true rfl) ⟨Nat.le_of_ble_eq_true rfl, Nat.le_of_ble_eq_true rfl⟩ ⟨Nat.zero_le _, Nat.zero_le _⟩ rfl dX7_addPair_118 (fun H locs hw => ?_)
    refine lv_lstore (lv' := [(9, .long z18), (7, .long z16), (0, .ref (ad 42)), (1, .ref (ad k1)), (2, .ref (ad 5)), (5, .int x5), (6, .int x6)]) hx hb dX7_addPair_121 hl (by decide) rfl (fun ls hl => ?_)
    refine lv_aload_n hx hb dX7_addPair_123 rfl (lv_at hl 2 rfl) ?_
    refine rg_p hC hw 42 (Nat.le_of_ble_eq_true rfl) rfl fd_X7_9 wf_X7_40 (q := 49) rfl dX7_addPair_124 ?_
    refine lv_aload_n hx hb dX7_addPair_127 rfl (lv_at hl 2 rfl) ?_
    refine rg_i hC hw 42 (Nat.le_of_ble_eq_true rfl) rfl fd_X7_6 wf_X7_31 dX7_addPair_128 ?_
    refine lv_dup2_11 hx hb dX7_addPair_131 rfl rfl ?_
    obtain ⟨h19, hf⟩ := ck_e hf
    refine ra_i hC hw 49 (Nat.le_of_ble_eq_true rfl) rfl h19 dX7_addPair_132 ?_
    refine lv_aload_n hx hb dX7_addPair_133 rfl (lv_at hl 3 rfl) ?_
    refine lv_lload hx hb dX7_addPair_134 (lv_at hl 1 rfl) ?_
    refine lv_lload hx hb dX7_addPair_136 (lv_at hl 0 rfl) ?_
    refine lv_aload_n hx hb dX7_addPair_138 rfl (lv_at hl 4 rfl) ?_
    obtain ⟨z20, ez20, hf⟩ := sq_e hf
    refine clc_Vi hC hw (c_X9_vowels ez20.symm) hd_X9_vowels cw_X7_61 (Nat.le_of_ble_eq_true rfl) rfl rfl (rest := [.long z18, .long z16, .ref (ad k1), .int (M.1 49 (M.1 42 6).toNatClampNeg), .int (M.1 42 6), .ref (ad 49)]) hl.1 rfl (Nat.le_of_ble_eq_true rfl) ⟨Nat.le_of_ble_eq_true rfl, Nat.le_of_ble_eq_true rfl⟩ ⟨Nat.zero_le _, Nat.zero_le _⟩ rfl dX7_addPair_139 (fun H locs hw => ?_)
    obtain ⟨z21, ez21, hf⟩ := bd_e hf
    refine clc_Vi hC hw (c_X5_isSoOf hk1 ez21) hd_X5_isSoOf cw_X7_65 (sg_lt hk1) (sg_kd hk1) rfl (rest := [.int (M.1 49 (M.1 42 6).toNatClampNeg), .int (M.1 42 6), .ref (ad 49)]) hl.1 rfl (Nat.le_of_ble_eq_true rfl) ⟨Nat.le_of_ble_eq_true rfl, Nat.le_of_ble_eq_true rfl⟩ ⟨Nat.zero_le _, Nat.zero_le _⟩ rfl dX7_addPair_142 (fun H locs hw => ?_)
    refine lv_if_eq (tgt := 160) hx hb dX7_addPair_145 (by decide) (fun c22 => ?_) (fun c22 => ?_)
    · rw [if_pos c22] at hf
      refine lv_iconst (v := 0) hx hb dX7_addPair_160 (by decide) ?_
      exact k_X7_addPair_161 hC hk1 hq83 hf hw (lv_sub hl [2, 3, 4, 5, 6] rfl)
    · rw [if_neg c22] at hf
      refine lv_iconst (v := 1) hx hb dX7_addPair_148 (by decide) ?_
      refine lv_iload hx hb dX7_addPair_149 (lv_at hl 5 rfl) ?_
      refine lv_iconst (v := 3) hx hb dX7_addPair_151 (by decide) ?_
      refine lv_imul hx hb dX7_addPair_152 ?_
      refine lv_iload hx hb dX7_addPair_153 (lv_at hl 6 rfl) ?_
      refine lv_iadd hx hb dX7_addPair_155 ?_
      refine lv_ishl hx hb dX7_addPair_156 ?_
      refine lv_goto (tgt := 161) hx hb dX7_addPair_157 (by decide) ?_
      exact k_X7_addPair_161 hC hk1 hq83 hf hw (lv_sub hl [2, 3, 4, 5, 6] rfl)
set_option maxRecDepth 100000 in
set_option maxHeartbeats 4000000 in
theorem k_X7_addPair_83l {p : Program} {l : Launch} {e : Env} {s : State} {m : MethodId} {args : Array Value} {below : List Frame} {meth : Method} {c : Code} {D : va_G} {cy : Nat → ClassId} {z0 : Nat} {ad : Nat → Nat} {X : va_W} {u : Nat × Nat} (hC : cx_C p s m args meth c cX7_addPair "RhymedThen$Stage" (Cond.code yX7_addPair cX7_addPair 11 none) 11 none) {z : mm_M} {q74 : Nat → Int32 → mm_M → Option mm_M} (hq74 : ∀ (k1 : Nat) (x5 : Int32) (M : mm_M) (H : Heap) (locs : List Loc) (ls : Array Slot), sg_ok k1 → q74 k1 x5 M = some z → wd_in cx_T D cy z0 ad u M X s H locs → lv_has ls 11 [(0, .ref (ad 42)), (1, .ref (ad k1)), (2, .ref (ad 5)), (5, .int x5)] → W p l e { frames := 3, cells := 0, slots := 0, locals := 72 } s m args below meth c H locs 0 0 (MQ below (cq_v cx_T D cy z0 ad u X z) args s 0 0 (fun q => z0 ≤ q)) (F0 m 74 ls [])) : ∀ (n : Nat) (k1 : Nat) (x5 : Int32) (x6 : Int32) (M : mm_M) (H : Heap) (locs : List Loc) (ls : Array Slot), sg_ok k1 → f_X7_addPair_83l q74 n k1 x5 x6 M = some z → wd_in cx_T D cy z0 ad u M X s H locs → lv_has ls 11 [(0, .ref (ad 42)), (1, .ref (ad k1)), (2, .ref (ad 5)), (5, .int x5), (6, .int x6)] → W p l e { frames := 3, cells := 0, slots := 0, locals := 72 } s m args below meth c H locs 0 0 (MQ below (cq_v cx_T D cy z0 ad u X z) args s 0 0 (fun q => z0 ≤ q)) (F0 m 83 ls []) := by
  intro n
  induction n with
  | zero => intro k1 x5 x6 M H locs ls hhk1 hf; exact absurd hf (by simp [f_X7_addPair_83l])
  | succ n ih => intro k1 x5 x6 M H locs ls hhk1 hf hw hl; exact k_X7_addPair_83 hC hhk1 hq74 ih hf hw hl
set_option maxRecDepth 100000 in
set_option maxHeartbeats 4000000 in
theorem k_X7_addPair_175 {p : Program} {l : Launch} {e : Env} {s : State} {m : MethodId} {args : Array Value} {below : List Frame} {meth : Method} {c : Code} {D : va_G} {cy : Nat → ClassId} {z0 : Nat} {ad : Nat → Nat} {X : va_W} {u : Nat × Nat} (hC : cx_C p s m args meth c cX7_addPair "RhymedThen$Stage" (Cond.code yX7_addPair cX7_addPair 11 none) 11 none) {z : mm_M} {M : mm_M} (hf : f_X7_addPair_175 M = some z) {H : Heap} {locs : List Loc} (hw : wd_in cx_T D cy z0 ad u M X s H locs) {ls : Array Slot} (hl : lv_has ls 11 [(0, .ref (ad 42))]) : W p l e { frames := 3, cells := 0, slots := 0, locals := 72 } s m args below meth c H locs 0 0 (MQ below (cq_v cx_T D cy z0 ad u X z) args s 0 0 (fun q => z0 ≤ q)) (F0 m 175 ls []) := by
  have hx := hC.1
  have hb := hC.2.1
  unfold f_X7_addPair_175 at hf
  refine lv_aload_n hx hb dX7_addPair_175 rfl (lv_at hl 0 rfl) ?_
  refine lv_dup hx hb dX7_addPair_176 rfl ?_
  refine rg_i hC hw 42 (Nat.le_of_ble_eq_true rfl) rfl fd_X7_6 wf_X7_31 dX7_addPair_177 ?_
  refine lv_iconst (v := 1) hx hb dX7_addPair_180 (by decide) ?_
  refine lv_iadd hx hb dX7_addPair_181 ?_
  obtain ⟨M13, eM13, hf⟩ := sq_e hf
  refine rp_i hC hw 42 (Nat.le_of_ble_eq_true rfl) rfl fd_X7_6 wf_X7_31 fp_X7_6 rfl rfl dX7_addPair_182 eM13 (fun H locs hw => ?_)
  have hz := Option.some.inj hf
  subst hz
  exact rtc_v hC hw dX7_addPair_185
set_option maxRecDepth 100000 in
set_option maxHeartbeats 4000000 in
theorem k_X7_addPair_74 {p : Program} {l : Launch} {e : Env} {s : State} {m : MethodId} {args : Array Value} {below : List Frame} {meth : Method} {c : Code} {D : va_G} {cy : Nat → ClassId} {z0 : Nat} {ad : Nat → Nat} {X : va_W} {u : Nat × Nat} (hC : cx_C p s m args meth c cX7_addPair "RhymedThen$Stage" (Cond.code yX7_addPair cX7_addPair 11 none) 11 none) {z : mm_M} {k1 : Nat} {x5 : Int32} {M : mm_M} (hk1 : sg_ok k1) {q74 : Nat → Int32 → mm_M → Option mm_M} (hq74 : ∀ (k1 : Nat) (x5 : Int32) (M : mm_M) (H : Heap) (locs : List Loc) (ls : Array Slot), sg_ok k1 → q74 k1 x5 M = some z → wd_in cx_T D cy z0 ad u M X s H locs → lv_has ls 11 [(0, .ref (ad 42)), (1, .ref (ad k1)), (2, .ref (ad 5)), (5, .int x5)] → W p l e { frames := 3, cells := 0, slots := 0, locals := 72 } s m args below meth c H locs 0 0 (MQ below (cq_v cx_T D cy z0 ad u X z) args s 0 0 (fun q => z0 ≤ q)) (F0 m 74 ls [])) (hf : f_X7_addPair_74 q74 k1 x5 M = some z) {H : Heap} {locs : List Loc} (hw : wd_in cx_T D cy z0 ad u M X s H locs) {ls : Array Slot} (hl : lv_has ls 11 [(0, .ref (ad 42)), (1, .ref (ad k1)), (2, .ref (ad 5)), (5, .int x5)]) : W p l e { frames := 3, cells := 0, slots := 0, locals := 72 } s m args below meth c H locs 0 0 (MQ below (cq_v cx_T D cy z0 ad u X z) args s 0 0 (fun q => z0 ≤ q)) (F0 m 74 ls []) := by
  have hx := hC.1
  have hb := hC.2.1
  unfold f_X7_addPair_74 at hf
  refine lv_iload hx hb dX7_addPair_74 (lv_at hl 3 rfl) ?_
  refine lv_iconst (v := 3) hx hb dX7_addPair_76 (by decide) ?_
  refine lv_icmp_ge (tgt := 175) hx hb dX7_addPair_77 (by decide) (fun c12 => ?_) (fun c12 => ?_)
  · rw [if_pos c12] at hf
    exact k_X7_addPair_175 hC hf hw (lv_sub hl [0] rfl)
  · rw [if_neg c12] at hf
    refine lv_iconst (v := 0) hx hb dX7_addPair_80 (by decide) ?_
    refine lv_istore (lv' := [(6, .int 0), (0, .ref (ad 42)), (1, .ref (ad k1)), (2, .ref (ad 5)), (5, .int x5)]) hx hb dX7_addPair_81 hl (by decide) rfl (fun ls hl => ?_)
    exact k_X7_addPair_83l hC hq74 fu_ _ _ _ _ _ _ _ hk1 hf hw (lv_sub hl [1, 2, 3, 4, 0] rfl)
set_option maxRecDepth 100000 in
set_option maxHeartbeats 4000000 in
theorem k_X7_addPair_74l {p : Program} {l : Launch} {e : Env} {s : State} {m : MethodId} {args : Array Value} {below : List Frame} {meth : Method} {c : Code} {D : va_G} {cy : Nat → ClassId} {z0 : Nat} {ad : Nat → Nat} {X : va_W} {u : Nat × Nat} (hC : cx_C p s m args meth c cX7_addPair "RhymedThen$Stage" (Cond.code yX7_addPair cX7_addPair 11 none) 11 none) {z : mm_M} : ∀ (n : Nat) (k1 : Nat) (x5 : Int32) (M : mm_M) (H : Heap) (locs : List Loc) (ls : Array Slot), sg_ok k1 → f_X7_addPair_74l n k1 x5 M = some z → wd_in cx_T D cy z0 ad u M X s H locs → lv_has ls 11 [(0, .ref (ad 42)), (1, .ref (ad k1)), (2, .ref (ad 5)), (5, .int x5)] → W p l e { frames := 3, cells := 0, slots := 0, locals := 72 } s m args below meth c H locs 0 0 (MQ below (cq_v cx_T D cy z0 ad u X z) args s 0 0 (fun q => z0 ≤ q)) (F0 m 74 ls []) := by
  intro n
  induction n with
  | zero => intro k1 x5 M H locs ls hhk1 hf; exact absurd hf (by simp [f_X7_addPair_74l])
  | succ n ih => intro k1 x5 M H locs ls hhk1 hf hw hl; exact k_X7_addPair_74 hC hhk1 ih hf hw hl
set_option maxRecDepth 100000 in
set_option maxHeartbeats 4000000 in
theorem k_X7_addPair {p : Program} {l : Launch} {e : Env} {s : State} {m : MethodId} {args : Array Value} {below : List Frame} {meth : Method} {c : Code} {D : va_G} {cy : Nat → ClassId} {z0 : Nat} {ad : Nat → Nat} {X : va_W} {u : Nat × Nat} (hC : cx_C p s m args meth c cX7_addPair "RhymedThen$Stage" (Cond.code yX7_addPair cX7_addPair 11 none) 11 none) {z : mm_M} {k1 : Nat} {M : mm_M} (hk1 : sg_ok k1) (hf : f_X7_addPair k1 M = some z) {H : Heap} {locs : List Loc} (hw : wd_in cx_T D cy z0 ad u M X s H locs) {ls : Array Slot} (hl : lv_has ls 11 [(0, .ref (ad 42)), (1, .ref (ad k1)), (2, .ref (ad 5))]) : W p l e { frames := 3, cells := 0, slots := 0, locals := 72 } s m args below meth c H locs 0 0 (MQ below (cq_v cx_T D cy z0 ad u X z) args s 0 0 (fun q => z0 ≤ q)) (F0 m 0 ls []) := by
  have hx := hC.1
  have hb := hC.2.1
  unfold f_X7_addPair at hf
  refine lv_aload_n hx hb dX7_addPair_0 rfl (lv_at hl 0 rfl) ?_
  refine lv_aload_n hx hb dX7_addPair_1 rfl (lv_at hl 1 rfl) ?_
  refine rg_i hC hw k1 (sg_lt hk1) (sg_kd hk1) fd_X5_1 wf_X7_43 dX7_addPair_2 ?_
  obtain ⟨z1, ez1, hf⟩ := bd_e hf
  refine clc_Vi hC hw (c_X7_seatOf ez1) hd_X7_seatOf cw_X7_48 (Nat.le_of_ble_eq_true rfl) rfl rfl (rest := []) hl.1 rfl (Nat.le_of_ble_eq_true rfl) ⟨Nat.le_of_ble_eq_true rfl, Nat.le_of_ble_eq_true rfl⟩ ⟨Nat.zero_le _, Nat.zero_le _⟩ rfl dX7_addPair_5 (fun H locs hw => ?_)
  refine lv_istore_n (lv' := [(3, .int z1), (0, .ref (ad 42)), (1, .ref (ad k1)), (2, .ref (ad 5))]) hx hb dX7_addPair_8 rfl hl (by decide) rfl (fun ls hl => ?_)
  refine lv_aload_n hx hb dX7_addPair_9 rfl (lv_at hl 1 rfl) ?_
  refine lv_aload_n hx hb dX7_addPair_10 rfl (lv_at hl 2 rfl) ?_
  refine rg_i hC hw k1 (sg_lt hk1) (sg_kd hk1) fd_X5_2 wf_X7_52 dX7_addPair_11 ?_
  obtain ⟨z2, ez2, hf⟩ := bd_e hf
  refine clc_Vi hC hw (c_X7_seatOf ez2) hd_X7_seatOf cw_X7_48 (Nat.le_of_ble_eq_true rfl) rfl rfl (rest := []) hl.1 rfl (Nat.le_of_ble_eq_true rfl) ⟨Nat.le_of_ble_eq_true rfl, Nat.le_of_ble_eq_true rfl⟩ ⟨Nat.zero_le _, Nat.zero_le _⟩ rfl dX7_addPair_14 (fun H locs hw => ?_)
  refine lv_istore (lv' := [(4, .int z2), (3, .int z1), (0, .ref (ad 42)), (1, .ref (ad k1)), (2, .ref (ad 5))]) hx hb dX7_addPair_17 hl (by decide) rfl (fun ls hl => ?_)
  refine lv_iload_n hx hb dX7_addPair_19 rfl (lv_at hl 1 rfl) ?_
  refine lv_iconst (v := (-1)) hx hb dX7_addPair_20 (by decide) ?_
  refine lv_icmp_eq (tgt := 39) hx hb dX7_addPair_21 (by decide) (fun c3 => ?_) (fun c3 => ?_)
  · rw [if_pos c3] at hf
    have hz := Option.some.inj hf
    subst hz
    exact rtc_v hC hw dX7_addPair_39
  · rw [if_neg c3] at hf
    refine lv_iload hx hb dX7_addPair_24 (lv_at hl 0 rfl) ?_
    refine lv_iconst (v := (-1)) hx hb dX7_addPair_26 (by decide) ?_
    refine lv_icmp_eq (tgt := 39) hx hb dX7_addPair_27 (by decide) (fun c4 => ?_) (fun c4 => ?_)
    · rw [if_pos c4] at hf
      have hz := Option.some.inj hf
      subst hz
      exact rtc_v hC hw dX7_addPair_39
    · rw [if_neg c4] at hf
      refine lv_aload_n hx hb dX7_addPair_30 rfl (lv_at hl 2 rfl) ?_
      refine rg_i hC hw 42 (Nat.le_of_ble_eq_true rfl) rfl fd_X7_6 wf_X7_31 dX7_addPair_31 ?_
      refine lv_bipush (v := 16) hx hb dX7_addPair_34 (by decide) ?_
      refine lv_icmp_lt (tgt := 40) hx hb dX7_addPair_36 (by decide) (fun c5 => ?_) (fun c5 => ?_)
      · rw [if_pos c5] at hf
        refine lv_aload_n hx hb dX7_addPair_40 rfl (lv_at hl 2 rfl) ?_
        refine rg_p hC hw 42 (Nat.le_of_ble_eq_true rfl) rfl fd_X7_7 wf_X7_34 (q := 47) rfl dX7_addPair_41 ?_
        refine lv_aload_n hx hb dX7_addPair_44 rfl (lv_at hl 2 rfl) ?_
        refine rg_i hC hw 42 (Nat.le_of_ble_eq_true rfl) rfl fd_X7_6 wf_X7_31 dX7_addPair_45 ?_
        refine lv_iload_n hx hb dX7_addPair_48 rfl (lv_at hl 1 rfl) ?_
        obtain ⟨h6, hf⟩ := ck_e hf
        obtain ⟨M7, eM7, hf⟩ := sq_e hf
        refine rs_i hC hw 47 (Nat.le_of_ble_eq_true rfl) rfl h6 dX7_addPair_49 eM7 (fun H locs hw => ?_)
        refine lv_aload_n hx hb dX7_addPair_50 rfl (lv_at hl 2 rfl) ?_
        refine rg_p hC hw 42 (Nat.le_of_ble_eq_true rfl) rfl fd_X7_8 wf_X7_37 (q := 48) rfl dX7_addPair_51 ?_
        refine lv_aload_n hx hb dX7_addPair_54 rfl (lv_at hl 2 rfl) ?_
        refine rg_i hC hw 42 (Nat.le_of_ble_eq_true rfl) rfl fd_X7_6 wf_X7_31 dX7_addPair_55 ?_
        refine lv_iload hx hb dX7_addPair_58 (lv_at hl 0 rfl) ?_
        obtain ⟨h8, hf⟩ := ck_e hf
        obtain ⟨M9, eM9, hf⟩ := sq_e hf
        refine rs_i hC hw 48 (Nat.le_of_ble_eq_true rfl) rfl h8 dX7_addPair_60 eM9 (fun H locs hw => ?_)
        refine lv_aload_n hx hb dX7_addPair_61 rfl (lv_at hl 2 rfl) ?_
        refine rg_p hC hw 42 (Nat.le_of_ble_eq_true rfl) rfl fd_X7_9 wf_X7_40 (q := 49) rfl dX7_addPair_62 ?_
        refine lv_aload_n hx hb dX7_addPair_65 rfl (lv_at hl 2 rfl) ?_
        refine rg_i hC hw 42 (Nat.le_of_ble_eq_true rfl) rfl fd_X7_6 wf_X7_31 dX7_addPair_66 ?_
        refine lv_iconst (v := 0) hx hb dX7_addPair_69 (by decide) ?_
        obtain ⟨h10, hf⟩ := ck_e hf
        obtain ⟨M11, eM11, hf⟩ := sq_e hf
        refine rs_i hC hw 49 (Nat.le_of_ble_eq_true rfl) rfl h10 dX7_addPair_70 eM11 (fun H locs hw => ?_)
        refine lv_iconst (v := 0) hx hb dX7_addPair_71 (by decide) ?_
        refine lv_istore (lv' := [(5, .int 0), (4, .int z2), (3, .int z1), (0, .ref (ad 42)), (1, .ref (ad k1)), (2, .ref (ad 5))]) hx hb dX7_addPair_72 hl (by decide) rfl (fun ls hl => ?_)
        exact k_X7_addPair_74l hC fu_ _ _ _ _ _ _ hk1 hf hw (lv_sub hl [3, 4, 5, 0] rfl)
      · rw [if_neg c5] at hf
        have hz := Option.some.inj hf
        subst hz
        exact rtc_v hC hw dX7_addPair_39
set_option maxRecDepth 100000 in
theorem c_X7_addPair {l : Launch} {D : va_G} {cy : Nat → ClassId} {z0 : Nat} {ad : Nat → Nat} {u : Nat × Nat} {X : va_W} {z : mm_M} {k1 : Nat} {M : mm_M} (hk1 : sg_ok k1) (hf : f_X7_addPair k1 M = some z) : ct_v cx_T l yX7_addPair (Cond.code yX7_addPair cX7_addPair 11 none) 3 72 D cy z0 ad u M X [.ref (ad 42), .ref (ad k1), .ref (ad 5)] z := by
  refine bgc_v (by decide) (fun p e s m below meth c hC hw => ?_)
  refine en_t (Nat.le_of_ble_eq_true rfl) (fun ls hl => ?_)
  have hl : lv_has ls 11 [(0, .ref (ad 42)), (1, .ref (ad k1)), (2, .ref (ad 5))] := hl
  exact k_X7_addPair hC hk1 hf hw hl
set_option maxRecDepth 100000 in
set_option maxHeartbeats 4000000 in
theorem k_X7_countSo_4 {p : Program} {l : Launch} {e : Env} {s : State} {m : MethodId} {args : Array Value} {below : List Frame} {meth : Method} {c : Code} {D : va_G} {cy : Nat → ClassId} {z0 : Nat} {ad : Nat → Nat} {X : va_W} {u : Nat × Nat} (hC : cx_C p s m args meth c cX7_countSo "RhymedThen$Stage" (Cond.code yX7_countSo cX7_countSo 3 (some .int)) 3 (some .int)) {z : Int32} {x1 : Int32} {x2 : Int32} {M : mm_M} {q4 : Int32 → Int32 → Option Int32} (hq4 : ∀ (x1 : Int32) (x2 : Int32) (H : Heap) (locs : List Loc) (ls : Array Slot), q4 x1 x2 = some z → wd_in cx_T D cy z0 ad u M X s H locs → lv_has ls 3 [(0, .ref (ad 42)), (1, .int x1), (2, .int x2)] → W p l e { frames := 0, cells := 0, slots := 0, locals := 0 } s m args below meth c H locs 0 0 (MQ below (cq_i cx_T D cy z0 ad u X z M) args s 0 0 (fun q => z0 ≤ q)) (F0 m 4 ls [])) (hf : f_X7_countSo_4 q4 x1 x2 M = some z) {H : Heap} {locs : List Loc} (hw : wd_in cx_T D cy z0 ad u M X s H locs) {ls : Array Slot} (hl : lv_has ls 3 [(0, .ref (ad 42)), (1, .int x1), (2, .int x2)]) : W p l e { frames := 0, cells := 0, slots := 0, locals := 0 } s m args below meth c H locs 0 0 (MQ below (cq_i cx_T D cy z0 ad u X z M) args s 0 0 (fun q => z0 ≤ q)) (F0 m 4 ls []) := by
  have hx := hC.1
  have hb := hC.2.1
  unfold f_X7_countSo_4 at hf
  refine lv_iload_n hx hb dX7_countSo_4 rfl (lv_at hl 2 rfl) ?_
  refine lv_aload_n hx hb dX7_countSo_5 rfl (lv_at hl 0 rfl) ?_
  refine rg_i hC hw 42 (Nat.le_of_ble_eq_true rfl) rfl fd_X7_6 wf_X7_31 dX7_countSo_6 ?_
  refine lv_icmp_ge (tgt := 55) hx hb dX7_countSo_9 (by decide) (fun c1 => ?_) (fun c1 => ?_)
  · rw [if_pos c1] at hf
    refine lv_iload_n hx hb dX7_countSo_55 rfl (lv_at hl 1 rfl) ?_
    have hz := Option.some.inj hf
    subst hz
    exact rtc_i hC hw dX7_countSo_56
  · rw [if_neg c1] at hf
    refine lv_iload_n hx hb dX7_countSo_12 rfl (lv_at hl 1 rfl) ?_
    refine lv_aload_n hx hb dX7_countSo_13 rfl (lv_at hl 0 rfl) ?_
    refine rg_p hC hw 42 (Nat.le_of_ble_eq_true rfl) rfl fd_X7_9 wf_X7_40 (q := 49) rfl dX7_countSo_14 ?_
    refine lv_iload_n hx hb dX7_countSo_17 rfl (lv_at hl 2 rfl) ?_
    obtain ⟨h2, hf⟩ := ck_e hf
    refine ra_i hC hw 49 (Nat.le_of_ble_eq_true rfl) rfl h2 dX7_countSo_18 ?_
    refine lv_aload_n hx hb dX7_countSo_19 rfl (lv_at hl 0 rfl) ?_
    refine rg_p hC hw 42 (Nat.le_of_ble_eq_true rfl) rfl fd_X7_5 wf_X7_28 (q := 46) rfl dX7_countSo_20 ?_
    refine lv_aload_n hx hb dX7_countSo_23 rfl (lv_at hl 0 rfl) ?_
    refine rg_p hC hw 42 (Nat.le_of_ble_eq_true rfl) rfl fd_X7_7 wf_X7_34 (q := 47) rfl dX7_countSo_24 ?_
    refine lv_iload_n hx hb dX7_countSo_27 rfl (lv_at hl 2 rfl) ?_
    obtain ⟨h3, hf⟩ := ck_e hf
    refine ra_i hC hw 47 (Nat.le_of_ble_eq_true rfl) rfl h3 dX7_countSo_28 ?_
    obtain ⟨h4, hf⟩ := ck_e hf
    refine ra_i hC hw 46 (Nat.le_of_ble_eq_true rfl) rfl h4 dX7_countSo_29 ?_
    refine lv_iconst (v := 3) hx hb dX7_countSo_30 (by decide) ?_
    refine lv_imul hx hb dX7_countSo_31 ?_
    refine lv_aload_n hx hb dX7_countSo_32 rfl (lv_at hl 0 rfl) ?_
    refine rg_p hC hw 42 (Nat.le_of_ble_eq_true rfl) rfl fd_X7_5 wf_X7_28 (q := 46) rfl dX7_countSo_33 ?_
    refine lv_aload_n hx hb dX7_countSo_36 rfl (lv_at hl 0 rfl) ?_
    refine rg_p hC hw 42 (Nat.le_of_ble_eq_true rfl) rfl fd_X7_8 wf_X7_37 (q := 48) rfl dX7_countSo_37 ?_
    refine lv_iload_n hx hb dX7_countSo_40 rfl (lv_at hl 2 rfl) ?_
    obtain ⟨h5, hf⟩ := ck_e hf
    refine ra_i hC hw 48 (Nat.le_of_ble_eq_true rfl) rfl h5 dX7_countSo_41 ?_
    obtain ⟨h6, hf⟩ := ck_e hf
    refine ra_i hC hw 46 (Nat.le_of_ble_eq_true rfl) rfl h6 dX7_countSo_42 ?_
    refine lv_iadd hx hb dX7_countSo_43 ?_
    refine lv_ishr hx hb dX7_countSo_44 ?_
    refine lv_iconst (v := 1) hx hb dX7_countSo_45 (by decide) ?_
    refine lv_iand hx hb dX7_countSo_46 ?_
    refine lv_iadd hx hb dX7_countSo_47 ?_
    obtain ⟨y7, ey7, hf⟩ := sq_e hf
    refine lt_i ey7 ?_
    refine lv_istore_n (lv' := [(1, .int y7), (0, .ref (ad 42)), (2, .int x2)]) hx hb dX7_countSo_48 rfl hl (by decide) rfl (fun ls hl => ?_)
    obtain ⟨y8, ey8, hf⟩ := sq_e hf
    refine lv_iinc (v := y8) (lv' := [(2, .int y8), (1, .int y7), (0, .ref (ad 42))]) hx hb dX7_countSo_49 hl (k := 2) rfl (by rw [ey8]; rfl) (by decide) rfl (fun ls hl => ?_)
    refine lv_goto (tgt := 4) hx hb dX7_countSo_52 (by decide) ?_
    exact hq4 _ _ _ _ _ hf hw (lv_sub hl [2, 1, 0] rfl)
set_option maxRecDepth 100000 in
set_option maxHeartbeats 4000000 in
theorem k_X7_countSo_4l {p : Program} {l : Launch} {e : Env} {s : State} {m : MethodId} {args : Array Value} {below : List Frame} {meth : Method} {c : Code} {D : va_G} {cy : Nat → ClassId} {z0 : Nat} {ad : Nat → Nat} {X : va_W} {u : Nat × Nat} (hC : cx_C p s m args meth c cX7_countSo "RhymedThen$Stage" (Cond.code yX7_countSo cX7_countSo 3 (some .int)) 3 (some .int)) {z : Int32} {M : mm_M} : ∀ (n : Nat) (x1 : Int32) (x2 : Int32) (H : Heap) (locs : List Loc) (ls : Array Slot), f_X7_countSo_4l M n x1 x2 = some z → wd_in cx_T D cy z0 ad u M X s H locs → lv_has ls 3 [(0, .ref (ad 42)), (1, .int x1), (2, .int x2)] → W p l e { frames := 0, cells := 0, slots := 0, locals := 0 } s m args below meth c H locs 0 0 (MQ below (cq_i cx_T D cy z0 ad u X z M) args s 0 0 (fun q => z0 ≤ q)) (F0 m 4 ls []) := by
  intro n
  induction n with
  | zero => intro x1 x2 H locs ls hf; exact absurd hf (by simp [f_X7_countSo_4l])
  | succ n ih => intro x1 x2 H locs ls hf hw hl; exact k_X7_countSo_4 hC ih hf hw hl
set_option maxRecDepth 100000 in
set_option maxHeartbeats 4000000 in
theorem k_X7_countSo {p : Program} {l : Launch} {e : Env} {s : State} {m : MethodId} {args : Array Value} {below : List Frame} {meth : Method} {c : Code} {D : va_G} {cy : Nat → ClassId} {z0 : Nat} {ad : Nat → Nat} {X : va_W} {u : Nat × Nat} (hC : cx_C p s m args meth c cX7_countSo "RhymedThen$Stage" (Cond.code yX7_countSo cX7_countSo 3 (some .int)) 3 (some .int)) {z : Int32} {M : mm_M} (hf : f_X7_countSo M = some z) {H : Heap} {locs : List Loc} (hw : wd_in cx_T D cy z0 ad u M X s H locs) {ls : Array Slot} (hl : lv_has ls 3 [(0, .ref (ad 42))]) : W p l e { frames := 0, cells := 0, slots := 0, locals := 0 } s m args below meth c H locs 0 0 (MQ below (cq_i cx_T D cy z0 ad u X z M) args s 0 0 (fun q => z0 ≤ q)) (F0 m 0 ls []) := by
  have hx := hC.1
  have hb := hC.2.1
  unfold f_X7_countSo at hf
  refine lv_iconst (v := 0) hx hb dX7_countSo_0 (by decide) ?_
  refine lv_istore_n (lv' := [(1, .int 0), (0, .ref (ad 42))]) hx hb dX7_countSo_1 rfl hl (by decide) rfl (fun ls hl => ?_)
  refine lv_iconst (v := 0) hx hb dX7_countSo_2 (by decide) ?_
  refine lv_istore_n (lv' := [(2, .int 0), (1, .int 0), (0, .ref (ad 42))]) hx hb dX7_countSo_3 rfl hl (by decide) rfl (fun ls hl => ?_)
  exact k_X7_countSo_4l hC fu_ _ _ _ _ _ hf hw (lv_sub hl [2, 1, 0] rfl)
set_option maxRecDepth 100000 in
theorem c_X7_countSo {l : Launch} {D : va_G} {cy : Nat → ClassId} {z0 : Nat} {ad : Nat → Nat} {u : Nat × Nat} {X : va_W} {z : Int32} {M : mm_M} (hf : f_X7_countSo M = some z) : ct_i cx_T l yX7_countSo (Cond.code yX7_countSo cX7_countSo 3 (some .int)) 0 0 D cy z0 ad u M X [.ref (ad 42)] z M := by
  refine bgc_i (by decide) (fun p e s m below meth c hC hw => ?_)
  refine en_t (Nat.le_of_ble_eq_true rfl) (fun ls hl => ?_)
  have hl : lv_has ls 3 [(0, .ref (ad 42))] := hl
  exact k_X7_countSo hC hf hw hl
set_option maxRecDepth 100000 in
set_option maxHeartbeats 4000000 in
theorem k_X7_chooseNext_34 {p : Program} {l : Launch} {e : Env} {s : State} {m : MethodId} {args : Array Value} {below : List Frame} {meth : Method} {c : Code} {D : va_G} {cy : Nat → ClassId} {z0 : Nat} {ad : Nat → Nat} {X : va_W} {u : Nat × Nat} (hC : cx_C p s m args meth c cX7_chooseNext "RhymedThen$Stage" (Cond.code yX7_chooseNext cX7_chooseNext 2 none) 2 none) {z : mm_M} {x1 : Int32} {M : mm_M} (hf : f_X7_chooseNext_34 x1 M = some z) {H : Heap} {locs : List Loc} (hw : wd_in cx_T D cy z0 ad u M X s H locs) {ls : Array Slot} (hl : lv_has ls 2 [(0, .ref (ad 42)), (1, .int x1)]) : W p l e { frames := 0, cells := 0, slots := 0, locals := 0 } s m args below meth c H locs 0 0 (MQ below (cq_v cx_T D cy z0 ad u X z) args s 0 0 (fun q => z0 ≤ q)) (F0 m 34 ls []) := by
  have hx := hC.1
  have hb := hC.2.1
  unfold f_X7_chooseNext_34 at hf
  refine lv_iload_n hx hb dX7_chooseNext_34 rfl (lv_at hl 1 rfl) ?_
  refine lv_if_lt (tgt := 48) hx hb dX7_chooseNext_35 (by decide) (fun c8 => ?_) (fun c8 => ?_)
  · rw [if_pos c8] at hf
    have hz := Option.some.inj hf
    subst hz
    exact rtc_v hC hw dX7_chooseNext_48
  · rw [if_neg c8] at hf
    refine lv_aload_n hx hb dX7_chooseNext_38 rfl (lv_at hl 0 rfl) ?_
    refine rg_p hC hw 42 (Nat.le_of_ble_eq_true rfl) rfl fd_X7_5 wf_X7_28 (q := 46) rfl dX7_chooseNext_39 ?_
    refine lv_iload_n hx hb dX7_chooseNext_42 rfl (lv_at hl 1 rfl) ?_
    refine lv_dup2_11 hx hb dX7_chooseNext_43 rfl rfl ?_
    obtain ⟨h9, hf⟩ := ck_e hf
    refine ra_i hC hw 46 (Nat.le_of_ble_eq_true rfl) rfl h9 dX7_chooseNext_44 ?_
    refine lv_iconst (v := 1) hx hb dX7_chooseNext_45 (by decide) ?_
    refine lv_iadd hx hb dX7_chooseNext_46 ?_
    obtain ⟨h10, hf⟩ := ck_e hf
    obtain ⟨M11, eM11, hf⟩ := sq_e hf
    refine rs_i hC hw 46 (Nat.le_of_ble_eq_true rfl) rfl h10 dX7_chooseNext_47 eM11 (fun H locs hw => ?_)
    have hz := Option.some.inj hf
    subst hz
    exact rtc_v hC hw dX7_chooseNext_48
set_option maxRecDepth 100000 in
set_option maxHeartbeats 4000000 in
theorem k_X7_chooseNext_7 {p : Program} {l : Launch} {e : Env} {s : State} {m : MethodId} {args : Array Value} {below : List Frame} {meth : Method} {c : Code} {D : va_G} {cy : Nat → ClassId} {z0 : Nat} {ad : Nat → Nat} {X : va_W} {u : Nat × Nat} (hC : cx_C p s m args meth c cX7_chooseNext "RhymedThen$Stage" (Cond.code yX7_chooseNext cX7_chooseNext 2 none) 2 none) {z : mm_M} {x1 : Int32} {M : mm_M} {q7 : Int32 → mm_M → Option mm_M} (hq7 : ∀ (x1 : Int32) (M : mm_M) (H : Heap) (locs : List Loc) (ls : Array Slot), q7 x1 M = some z → wd_in cx_T D cy z0 ad u M X s H locs → lv_has ls 2 [(0, .ref (ad 42)), (1, .int x1)] → W p l e { frames := 0, cells := 0, slots := 0, locals := 0 } s m args below meth c H locs 0 0 (MQ below (cq_v cx_T D cy z0 ad u X z) args s 0 0 (fun q => z0 ≤ q)) (F0 m 7 ls [])) (hf : f_X7_chooseNext_7 q7 x1 M = some z) {H : Heap} {locs : List Loc} (hw : wd_in cx_T D cy z0 ad u M X s H locs) {ls : Array Slot} (hl : lv_has ls 2 [(0, .ref (ad 42)), (1, .int x1)]) : W p l e { frames := 0, cells := 0, slots := 0, locals := 0 } s m args below meth c H locs 0 0 (MQ below (cq_v cx_T D cy z0 ad u X z) args s 0 0 (fun q => z0 ≤ q)) (F0 m 7 ls []) := by
  have hx := hC.1
  have hb := hC.2.1
  unfold f_X7_chooseNext_7 at hf
  refine lv_iload_n hx hb dX7_chooseNext_7 rfl (lv_at hl 1 rfl) ?_
  refine lv_if_lt (tgt := 34) hx hb dX7_chooseNext_8 (by decide) (fun c2 => ?_) (fun c2 => ?_)
  · rw [if_pos c2] at hf
    exact k_X7_chooseNext_34 hC hf hw (lv_sub hl [0, 1] rfl)
  · rw [if_neg c2] at hf
    refine lv_aload_n hx hb dX7_chooseNext_11 rfl (lv_at hl 0 rfl) ?_
    refine rg_p hC hw 42 (Nat.le_of_ble_eq_true rfl) rfl fd_X7_5 wf_X7_28 (q := 46) rfl dX7_chooseNext_12 ?_
    refine lv_iload_n hx hb dX7_chooseNext_15 rfl (lv_at hl 1 rfl) ?_
    obtain ⟨h3, hf⟩ := ck_e hf
    refine ra_i hC hw 46 (Nat.le_of_ble_eq_true rfl) rfl h3 dX7_chooseNext_16 ?_
    refine lv_iconst (v := 2) hx hb dX7_chooseNext_17 (by decide) ?_
    refine lv_icmp_ne (tgt := 34) hx hb dX7_chooseNext_18 (by decide) (fun c4 => ?_) (fun c4 => ?_)
    · rw [if_neg c4] at hf
      exact k_X7_chooseNext_34 hC hf hw (lv_sub hl [0, 1] rfl)
    · rw [if_pos c4] at hf
      refine lv_aload_n hx hb dX7_chooseNext_21 rfl (lv_at hl 0 rfl) ?_
      refine rg_p hC hw 42 (Nat.le_of_ble_eq_true rfl) rfl fd_X7_5 wf_X7_28 (q := 46) rfl dX7_chooseNext_22 ?_
      refine lv_iload_n hx hb dX7_chooseNext_25 rfl (lv_at hl 1 rfl) ?_
      refine lv_iconst (v := 0) hx hb dX7_chooseNext_26 (by decide) ?_
      obtain ⟨h5, hf⟩ := ck_e hf
      obtain ⟨M6, eM6, hf⟩ := sq_e hf
      refine rs_i hC hw 46 (Nat.le_of_ble_eq_true rfl) rfl h5 dX7_chooseNext_27 eM6 (fun H locs hw => ?_)
      obtain ⟨y7, ey7, hf⟩ := sq_e hf
      refine lv_iinc (v := y7) (lv' := [(1, .int y7), (0, .ref (ad 42))]) hx hb dX7_chooseNext_28 hl (k := 1) rfl (by rw [ey7]; rfl) (by decide) rfl (fun ls hl => ?_)
      refine lv_goto (tgt := 7) hx hb dX7_chooseNext_31 (by decide) ?_
      exact hq7 _ _ _ _ _ hf hw (lv_sub hl [1, 0] rfl)
set_option maxRecDepth 100000 in
set_option maxHeartbeats 4000000 in
theorem k_X7_chooseNext_7l {p : Program} {l : Launch} {e : Env} {s : State} {m : MethodId} {args : Array Value} {below : List Frame} {meth : Method} {c : Code} {D : va_G} {cy : Nat → ClassId} {z0 : Nat} {ad : Nat → Nat} {X : va_W} {u : Nat × Nat} (hC : cx_C p s m args meth c cX7_chooseNext "RhymedThen$Stage" (Cond.code yX7_chooseNext cX7_chooseNext 2 none) 2 none) {z : mm_M} : ∀ (n : Nat) (x1 : Int32) (M : mm_M) (H : Heap) (locs : List Loc) (ls : Array Slot), f_X7_chooseNext_7l n x1 M = some z → wd_in cx_T D cy z0 ad u M X s H locs → lv_has ls 2 [(0, .ref (ad 42)), (1, .int x1)] → W p l e { frames := 0, cells := 0, slots := 0, locals := 0 } s m args below meth c H locs 0 0 (MQ below (cq_v cx_T D cy z0 ad u X z) args s 0 0 (fun q => z0 ≤ q)) (F0 m 7 ls []) := by
  intro n
  induction n with
  | zero => intro x1 M H locs ls hf; exact absurd hf (by simp [f_X7_chooseNext_7l])
  | succ n ih => intro x1 M H locs ls hf hw hl; exact k_X7_chooseNext_7 hC ih hf hw hl
set_option maxRecDepth 100000 in
set_option maxHeartbeats 4000000 in
theorem k_X7_chooseNext {p : Program} {l : Launch} {e : Env} {s : State} {m : MethodId} {args : Array Value} {below : List Frame} {meth : Method} {c : Code} {D : va_G} {cy : Nat → ClassId} {z0 : Nat} {ad : Nat → Nat} {X : va_W} {u : Nat × Nat} (hC : cx_C p s m args meth c cX7_chooseNext "RhymedThen$Stage" (Cond.code yX7_chooseNext cX7_chooseNext 2 none) 2 none) {z : mm_M} {M : mm_M} (hf : f_X7_chooseNext M = some z) {H : Heap} {locs : List Loc} (hw : wd_in cx_T D cy z0 ad u M X s H locs) {ls : Array Slot} (hl : lv_has ls 2 [(0, .ref (ad 42))]) : W p l e { frames := 0, cells := 0, slots := 0, locals := 0 } s m args below meth c H locs 0 0 (MQ below (cq_v cx_T D cy z0 ad u X z) args s 0 0 (fun q => z0 ≤ q)) (F0 m 0 ls []) := by
  have hx := hC.1
  have hb := hC.2.1
  unfold f_X7_chooseNext at hf
  refine lv_aload_n hx hb dX7_chooseNext_0 rfl (lv_at hl 0 rfl) ?_
  refine rg_i hC hw 42 (Nat.le_of_ble_eq_true rfl) rfl fd_X7_1 wf_X7_15 dX7_chooseNext_1 ?_
  refine lv_iconst (v := 1) hx hb dX7_chooseNext_4 (by decide) ?_
  refine lv_isub hx hb dX7_chooseNext_5 ?_
  obtain ⟨y1, ey1, hf⟩ := sq_e hf
  refine lt_i ey1 ?_
  refine lv_istore_n (lv' := [(1, .int y1), (0, .ref (ad 42))]) hx hb dX7_chooseNext_6 rfl hl (by decide) rfl (fun ls hl => ?_)
  exact k_X7_chooseNext_7l hC fu_ _ _ _ _ _ hf hw (lv_sub hl [1, 0] rfl)
set_option maxRecDepth 100000 in
theorem c_X7_chooseNext {l : Launch} {D : va_G} {cy : Nat → ClassId} {z0 : Nat} {ad : Nat → Nat} {u : Nat × Nat} {X : va_W} {z : mm_M} {M : mm_M} (hf : f_X7_chooseNext M = some z) : ct_v cx_T l yX7_chooseNext (Cond.code yX7_chooseNext cX7_chooseNext 2 none) 0 0 D cy z0 ad u M X [.ref (ad 42)] z := by
  refine bgc_v (by decide) (fun p e s m below meth c hC hw => ?_)
  refine en_t (Nat.le_of_ble_eq_true rfl) (fun ls hl => ?_)
  have hl : lv_has ls 2 [(0, .ref (ad 42))] := hl
  exact k_X7_chooseNext hC hf hw hl
set_option maxRecDepth 100000 in
set_option maxHeartbeats 4000000 in
theorem k_X7_play_70 {p : Program} {l : Launch} {e : Env} {s : State} {m : MethodId} {args : Array Value} {below : List Frame} {meth : Method} {c : Code} {D : va_G} {cy : Nat → ClassId} {z0 : Nat} {ad : Nat → Nat} {X : va_W} {u : Nat × Nat} (hC : cx_C p s m args meth c cX7_play "RhymedThen$Stage" (Cond.code yX7_play cX7_play 5 (some .int)) 5 (some .int)) {z : (Int32 × mm_M)} {x1 : Int32} {x2 : Int32} {x3 : Int32} {M : mm_M} {q33 : Int32 → Int32 → Int32 → mm_M → Option (Int32 × mm_M)} (hq33 : ∀ (x1 : Int32) (x2 : Int32) (x3 : Int32) (M : mm_M) (H : Heap) (locs : List Loc) (ls : Array Slot), q33 x1 x2 x3 M = some z → wd_in cx_T D cy z0 ad u M X s H locs → lv_has ls 5 [(0, .ref (ad 42)), (1, .int x1), (2, .int x2), (3, .int x3)] → W p l e { frames := 1, cells := 0, slots := 0, locals := 60 } s m args below meth c H locs 0 0 (MQ below (cq_i cx_T D cy z0 ad u X z.1 z.2) args s 0 0 (fun q => z0 ≤ q)) (F0 m 33 ls [])) (hf : f_X7_play_70 q33 x1 x2 x3 M = some z) {H : Heap} {locs : List Loc} (hw : wd_in cx_T D cy z0 ad u M X s H locs) {ls : Array Slot} (hl : lv_has ls 5 [(0, .ref (ad 42)), (1, .int x1), (2, .int x2), (3, .int x3)]) : W p l e { frames := 1, cells := 0, slots := 0, locals := 60 } s m args below meth c H locs 0 0 (MQ below (cq_i cx_T D cy z0 ad u X z.1 z.2) args s 0 0 (fun q => z0 ≤ q)) (F0 m 70 ls []) := by
  have hx := hC.1
  have hb := hC.2.1
  unfold f_X7_play_70 at hf
  refine lv_aload_n hx hb dX7_play_70 rfl (lv_at hl 0 rfl) ?_
  obtain ⟨z11, ez11, hf⟩ := bd_e hf
  refine clc_Vv hC hw (c_X7_chooseNext ez11) hd_X7_chooseNext cw_X7_78 (Nat.le_of_ble_eq_true rfl) rfl rfl (rest := []) hl.1 rfl (Nat.le_of_ble_eq_true rfl) ⟨Nat.le_of_ble_eq_true rfl, Nat.le_of_ble_eq_true rfl⟩ ⟨Nat.zero_le _, Nat.zero_le _⟩ rfl dX7_play_71 (fun H locs hw => ?_)
  obtain ⟨y12, ey12, hf⟩ := sq_e hf
  refine lv_iinc (v := y12) (lv' := [(3, .int y12), (0, .ref (ad 42)), (1, .int x1), (2, .int x2)]) hx hb dX7_play_74 hl (k := 3) rfl (by rw [ey12]; rfl) (by decide) rfl (fun ls hl => ?_)
  refine lv_goto (tgt := 33) hx hb dX7_play_77 (by decide) ?_
  exact hq33 _ _ _ _ _ _ _ hf hw (lv_sub hl [1, 2, 3, 0] rfl)
set_option maxRecDepth 100000 in
set_option maxHeartbeats 4000000 in
theorem k_X7_play_33 {p : Program} {l : Launch} {e : Env} {s : State} {m : MethodId} {args : Array Value} {below : List Frame} {meth : Method} {c : Code} {D : va_G} {cy : Nat → ClassId} {z0 : Nat} {ad : Nat → Nat} {X : va_W} {u : Nat × Nat} (hC : cx_C p s m args meth c cX7_play "RhymedThen$Stage" (Cond.code yX7_play cX7_play 5 (some .int)) 5 (some .int)) {z : (Int32 × mm_M)} {x1 : Int32} {x2 : Int32} {x3 : Int32} {M : mm_M} {q33 : Int32 → Int32 → Int32 → mm_M → Option (Int32 × mm_M)} (hq33 : ∀ (x1 : Int32) (x2 : Int32) (x3 : Int32) (M : mm_M) (H : Heap) (locs : List Loc) (ls : Array Slot), q33 x1 x2 x3 M = some z → wd_in cx_T D cy z0 ad u M X s H locs → lv_has ls 5 [(0, .ref (ad 42)), (1, .int x1), (2, .int x2), (3, .int x3)] → W p l e { frames := 1, cells := 0, slots := 0, locals := 60 } s m args below meth c H locs 0 0 (MQ below (cq_i cx_T D cy z0 ad u X z.1 z.2) args s 0 0 (fun q => z0 ≤ q)) (F0 m 33 ls [])) (hf : f_X7_play_33 q33 x1 x2 x3 M = some z) {H : Heap} {locs : List Loc} (hw : wd_in cx_T D cy z0 ad u M X s H locs) {ls : Array Slot} (hl : lv_has ls 5 [(0, .ref (ad 42)), (1, .int x1), (2, .int x2), (3, .int x3)]) : W p l e { frames := 1, cells := 0, slots := 0, locals := 60 } s m args below meth c H locs 0 0 (MQ below (cq_i cx_T D cy z0 ad u X z.1 z.2) args s 0 0 (fun q => z0 ≤ q)) (F0 m 33 ls []) := by
  have hx := hC.1
  have hb := hC.2.1
  unfold f_X7_play_33 at hf
  refine lv_iload_n hx hb dX7_play_33 rfl (lv_at hl 3 rfl) ?_
  refine lv_iload_n hx hb dX7_play_34 rfl (lv_at hl 2 rfl) ?_
  refine lv_icmp_ge (tgt := 80) hx hb dX7_play_35 (by decide) (fun c6 => ?_) (fun c6 => ?_)
  · rw [if_pos c6] at hf
    refine lv_iload_n hx hb dX7_play_80 rfl (lv_at hl 1 rfl) ?_
    have hz := Option.some.inj hf
    subst hz
    exact rtc_i hC hw dX7_play_81
  · rw [if_neg c6] at hf
    refine lv_aload_n hx hb dX7_play_38 rfl (lv_at hl 0 rfl) ?_
    obtain ⟨z7, ez7, hf⟩ := bd_e hf
    refine clc_Vi hC hw (c_X7_countSo ez7) hd_X7_countSo cw_X7_69 (Nat.le_of_ble_eq_true rfl) rfl rfl (rest := []) hl.1 rfl (Nat.le_of_ble_eq_true rfl) ⟨Nat.le_of_ble_eq_true rfl, Nat.le_of_ble_eq_true rfl⟩ ⟨Nat.zero_le _, Nat.zero_le _⟩ rfl dX7_play_39 (fun H locs hw => ?_)
    refine lv_istore (lv' := [(4, .int z7), (0, .ref (ad 42)), (1, .int x1), (2, .int x2), (3, .int x3)]) hx hb dX7_play_42 hl (by decide) rfl (fun ls hl => ?_)
    refine lv_iload hx hb dX7_play_44 (lv_at hl 0 rfl) ?_
    refine lv_iload_n hx hb dX7_play_46 rfl (lv_at hl 2 rfl) ?_
    refine lv_icmp_le (tgt := 70) hx hb dX7_play_47 (by decide) (fun c8 => ?_) (fun c8 => ?_)
    · rw [if_pos c8] at hf
      exact k_X7_play_70 hC hq33 hf hw (lv_sub hl [1, 2, 3, 4] rfl)
    · rw [if_neg c8] at hf
      refine lv_iload hx hb dX7_play_50 (lv_at hl 0 rfl) ?_
      refine lv_istore_n (lv' := [(1, .int z7), (4, .int z7), (0, .ref (ad 42)), (2, .int x2), (3, .int x3)]) hx hb dX7_play_52 rfl hl (by decide) rfl (fun ls hl => ?_)
      refine lv_aload_n hx hb dX7_play_53 rfl (lv_at hl 2 rfl) ?_
      refine rg_p hC hw 42 (Nat.le_of_ble_eq_true rfl) rfl fd_X7_5 wf_X7_28 (q := 46) rfl dX7_play_54 ?_
      refine lv_iconst (v := 0) hx hb dX7_play_57 (by decide) ?_
      refine lv_aload_n hx hb dX7_play_58 rfl (lv_at hl 2 rfl) ?_
      refine rg_p hC hw 42 (Nat.le_of_ble_eq_true rfl) rfl fd_X7_3 wf_X7_22 (q := 44) rfl dX7_play_59 ?_
      refine lv_iconst (v := 0) hx hb dX7_play_62 (by decide) ?_
      refine lv_aload_n hx hb dX7_play_63 rfl (lv_at hl 2 rfl) ?_
      refine rg_i hC hw 42 (Nat.le_of_ble_eq_true rfl) rfl fd_X7_1 wf_X7_15 dX7_play_64 ?_
      obtain ⟨h9, hf⟩ := ck_e hf
      obtain ⟨M10, eM10, hf⟩ := sq_e hf
      refine rc_i hC hw (index := 72) wm_X7_72 46 44 (Nat.le_of_ble_eq_true rfl) rfl (Nat.le_of_ble_eq_true rfl) rfl h9 hl.1 ⟨Nat.le_of_ble_eq_true rfl, Nat.le_of_ble_eq_true rfl⟩ dX7_play_67 eM10 (fun H locs hw => ?_)
      exact k_X7_play_70 hC hq33 hf hw (lv_sub hl [2, 0, 3, 4] rfl)
set_option maxRecDepth 100000 in
set_option maxHeartbeats 4000000 in
theorem k_X7_play_33l {p : Program} {l : Launch} {e : Env} {s : State} {m : MethodId} {args : Array Value} {below : List Frame} {meth : Method} {c : Code} {D : va_G} {cy : Nat → ClassId} {z0 : Nat} {ad : Nat → Nat} {X : va_W} {u : Nat × Nat} (hC : cx_C p s m args meth c cX7_play "RhymedThen$Stage" (Cond.code yX7_play cX7_play 5 (some .int)) 5 (some .int)) {z : (Int32 × mm_M)} : ∀ (n : Nat) (x1 : Int32) (x2 : Int32) (x3 : Int32) (M : mm_M) (H : Heap) (locs : List Loc) (ls : Array Slot), f_X7_play_33l n x1 x2 x3 M = some z → wd_in cx_T D cy z0 ad u M X s H locs → lv_has ls 5 [(0, .ref (ad 42)), (1, .int x1), (2, .int x2), (3, .int x3)] → W p l e { frames := 1, cells := 0, slots := 0, locals := 60 } s m args below meth c H locs 0 0 (MQ below (cq_i cx_T D cy z0 ad u X z.1 z.2) args s 0 0 (fun q => z0 ≤ q)) (F0 m 33 ls []) := by
  intro n
  induction n with
  | zero => intro x1 x2 x3 M H locs ls hf; exact absurd hf (by simp [f_X7_play_33l])
  | succ n ih => intro x1 x2 x3 M H locs ls hf hw hl; exact k_X7_play_33 hC ih hf hw hl
set_option maxRecDepth 100000 in
set_option maxHeartbeats 4000000 in
theorem k_X7_play_31 {p : Program} {l : Launch} {e : Env} {s : State} {m : MethodId} {args : Array Value} {below : List Frame} {meth : Method} {c : Code} {D : va_G} {cy : Nat → ClassId} {z0 : Nat} {ad : Nat → Nat} {X : va_W} {u : Nat × Nat} (hC : cx_C p s m args meth c cX7_play "RhymedThen$Stage" (Cond.code yX7_play cX7_play 5 (some .int)) 5 (some .int)) {z : (Int32 × mm_M)} {x1 : Int32} {x2 : Int32} {M : mm_M} (hf : f_X7_play_31 x1 x2 M = some z) {H : Heap} {locs : List Loc} (hw : wd_in cx_T D cy z0 ad u M X s H locs) {ls : Array Slot} (hl : lv_has ls 5 [(0, .ref (ad 42)), (1, .int x1), (2, .int x2)]) : W p l e { frames := 1, cells := 0, slots := 0, locals := 60 } s m args below meth c H locs 0 0 (MQ below (cq_i cx_T D cy z0 ad u X z.1 z.2) args s 0 0 (fun q => z0 ≤ q)) (F0 m 31 ls []) := by
  have hx := hC.1
  have hb := hC.2.1
  unfold f_X7_play_31 at hf
  refine lv_iconst (v := 0) hx hb dX7_play_31 (by decide) ?_
  refine lv_istore_n (lv' := [(3, .int 0), (0, .ref (ad 42)), (1, .int x1), (2, .int x2)]) hx hb dX7_play_32 rfl hl (by decide) rfl (fun ls hl => ?_)
  exact k_X7_play_33l hC fu_ _ _ _ _ _ _ _ hf hw (lv_sub hl [1, 2, 3, 0] rfl)
set_option maxRecDepth 100000 in
set_option maxHeartbeats 4000000 in
theorem k_X7_play_6 {p : Program} {l : Launch} {e : Env} {s : State} {m : MethodId} {args : Array Value} {below : List Frame} {meth : Method} {c : Code} {D : va_G} {cy : Nat → ClassId} {z0 : Nat} {ad : Nat → Nat} {X : va_W} {u : Nat × Nat} (hC : cx_C p s m args meth c cX7_play "RhymedThen$Stage" (Cond.code yX7_play cX7_play 5 (some .int)) 5 (some .int)) {z : (Int32 × mm_M)} {x1 : Int32} {x2 : Int32} {x3 : Int32} {M : mm_M} {q6 : Int32 → Int32 → Int32 → mm_M → Option (Int32 × mm_M)} (hq6 : ∀ (x1 : Int32) (x2 : Int32) (x3 : Int32) (M : mm_M) (H : Heap) (locs : List Loc) (ls : Array Slot), q6 x1 x2 x3 M = some z → wd_in cx_T D cy z0 ad u M X s H locs → lv_has ls 5 [(0, .ref (ad 42)), (1, .int x1), (2, .int x2), (3, .int x3)] → W p l e { frames := 1, cells := 0, slots := 0, locals := 60 } s m args below meth c H locs 0 0 (MQ below (cq_i cx_T D cy z0 ad u X z.1 z.2) args s 0 0 (fun q => z0 ≤ q)) (F0 m 6 ls [])) (hf : f_X7_play_6 q6 x1 x2 x3 M = some z) {H : Heap} {locs : List Loc} (hw : wd_in cx_T D cy z0 ad u M X s H locs) {ls : Array Slot} (hl : lv_has ls 5 [(0, .ref (ad 42)), (1, .int x1), (2, .int x2), (3, .int x3)]) : W p l e { frames := 1, cells := 0, slots := 0, locals := 60 } s m args below meth c H locs 0 0 (MQ below (cq_i cx_T D cy z0 ad u X z.1 z.2) args s 0 0 (fun q => z0 ≤ q)) (F0 m 6 ls []) := by
  have hx := hC.1
  have hb := hC.2.1
  unfold f_X7_play_6 at hf
  refine lv_iload_n hx hb dX7_play_6 rfl (lv_at hl 3 rfl) ?_
  refine lv_aload_n hx hb dX7_play_7 rfl (lv_at hl 0 rfl) ?_
  refine rg_i hC hw 42 (Nat.le_of_ble_eq_true rfl) rfl fd_X7_1 wf_X7_15 dX7_play_8 ?_
  refine lv_icmp_ge (tgt := 31) hx hb dX7_play_11 (by decide) (fun c1 => ?_) (fun c1 => ?_)
  · rw [if_pos c1] at hf
    exact k_X7_play_31 hC hf hw (lv_sub hl [0, 1, 2] rfl)
  · rw [if_neg c1] at hf
    refine lv_aload_n hx hb dX7_play_14 rfl (lv_at hl 0 rfl) ?_
    refine rg_p hC hw 42 (Nat.le_of_ble_eq_true rfl) rfl fd_X7_5 wf_X7_28 (q := 46) rfl dX7_play_15 ?_
    refine lv_iload_n hx hb dX7_play_18 rfl (lv_at hl 3 rfl) ?_
    refine lv_iconst (v := 0) hx hb dX7_play_19 (by decide) ?_
    obtain ⟨h2, hf⟩ := ck_e hf
    obtain ⟨M3, eM3, hf⟩ := sq_e hf
    refine rs_i hC hw 46 (Nat.le_of_ble_eq_true rfl) rfl h2 dX7_play_20 eM3 (fun H locs hw => ?_)
    refine lv_iload_n hx hb dX7_play_21 rfl (lv_at hl 2 rfl) ?_
    refine lv_iconst (v := 3) hx hb dX7_play_22 (by decide) ?_
    refine lv_imul hx hb dX7_play_23 ?_
    obtain ⟨y4, ey4, hf⟩ := sq_e hf
    refine lt_i ey4 ?_
    refine lv_istore_n (lv' := [(2, .int y4), (0, .ref (ad 42)), (1, .int x1), (3, .int x3)]) hx hb dX7_play_24 rfl hl (by decide) rfl (fun ls hl => ?_)
    obtain ⟨y5, ey5, hf⟩ := sq_e hf
    refine lv_iinc (v := y5) (lv' := [(3, .int y5), (2, .int y4), (0, .ref (ad 42)), (1, .int x1)]) hx hb dX7_play_25 hl (k := 3) rfl (by rw [ey5]; rfl) (by decide) rfl (fun ls hl => ?_)
    refine lv_goto (tgt := 6) hx hb dX7_play_28 (by decide) ?_
    exact hq6 _ _ _ _ _ _ _ hf hw (lv_sub hl [2, 3, 1, 0] rfl)
set_option maxRecDepth 100000 in
set_option maxHeartbeats 4000000 in
theorem k_X7_play_6l {p : Program} {l : Launch} {e : Env} {s : State} {m : MethodId} {args : Array Value} {below : List Frame} {meth : Method} {c : Code} {D : va_G} {cy : Nat → ClassId} {z0 : Nat} {ad : Nat → Nat} {X : va_W} {u : Nat × Nat} (hC : cx_C p s m args meth c cX7_play "RhymedThen$Stage" (Cond.code yX7_play cX7_play 5 (some .int)) 5 (some .int)) {z : (Int32 × mm_M)} : ∀ (n : Nat) (x1 : Int32) (x2 : Int32) (x3 : Int32) (M : mm_M) (H : Heap) (locs : List Loc) (ls : Array Slot), f_X7_play_6l n x1 x2 x3 M = some z → wd_in cx_T D cy z0 ad u M X s H locs → lv_has ls 5 [(0, .ref (ad 42)), (1, .int x1), (2, .int x2), (3, .int x3)] → W p l e { frames := 1, cells := 0, slots := 0, locals := 60 } s m args below meth c H locs 0 0 (MQ below (cq_i cx_T D cy z0 ad u X z.1 z.2) args s 0 0 (fun q => z0 ≤ q)) (F0 m 6 ls []) := by
  intro n
  induction n with
  | zero => intro x1 x2 x3 M H locs ls hf; exact absurd hf (by simp [f_X7_play_6l])
  | succ n ih => intro x1 x2 x3 M H locs ls hf hw hl; exact k_X7_play_6 hC ih hf hw hl
set_option maxRecDepth 100000 in
set_option maxHeartbeats 4000000 in
theorem k_X7_play {p : Program} {l : Launch} {e : Env} {s : State} {m : MethodId} {args : Array Value} {below : List Frame} {meth : Method} {c : Code} {D : va_G} {cy : Nat → ClassId} {z0 : Nat} {ad : Nat → Nat} {X : va_W} {u : Nat × Nat} (hC : cx_C p s m args meth c cX7_play "RhymedThen$Stage" (Cond.code yX7_play cX7_play 5 (some .int)) 5 (some .int)) {z : (Int32 × mm_M)} {M : mm_M} (hf : f_X7_play M = some z) {H : Heap} {locs : List Loc} (hw : wd_in cx_T D cy z0 ad u M X s H locs) {ls : Array Slot} (hl : lv_has ls 5 [(0, .ref (ad 42))]) : W p l e { frames := 1, cells := 0, slots := 0, locals := 60 } s m args below meth c H locs 0 0 (MQ below (cq_i cx_T D cy z0 ad u X z.1 z.2) args s 0 0 (fun q => z0 ≤ q)) (F0 m 0 ls []) := by
  have hx := hC.1
  have hb := hC.2.1
  unfold f_X7_play at hf
  refine lv_iconst (v := (-1)) hx hb dX7_play_0 (by decide) ?_
  refine lv_istore_n (lv' := [(1, .int (-1)), (0, .ref (ad 42))]) hx hb dX7_play_1 rfl hl (by decide) rfl (fun ls hl => ?_)
  refine lv_iconst (v := 1) hx hb dX7_play_2 (by decide) ?_
  refine lv_istore_n (lv' := [(2, .int 1), (1, .int (-1)), (0, .ref (ad 42))]) hx hb dX7_play_3 rfl hl (by decide) rfl (fun ls hl => ?_)
  refine lv_iconst (v := 0) hx hb dX7_play_4 (by decide) ?_
  refine lv_istore_n (lv' := [(3, .int 0), (2, .int 1), (1, .int (-1)), (0, .ref (ad 42))]) hx hb dX7_play_5 rfl hl (by decide) rfl (fun ls hl => ?_)
  exact k_X7_play_6l hC fu_ _ _ _ _ _ _ _ hf hw (lv_sub hl [3, 2, 1, 0] rfl)
set_option maxRecDepth 100000 in
theorem c_X7_play {l : Launch} {D : va_G} {cy : Nat → ClassId} {z0 : Nat} {ad : Nat → Nat} {u : Nat × Nat} {X : va_W} {z : (Int32 × mm_M)} {M : mm_M} (hf : f_X7_play M = some z) : ct_i cx_T l yX7_play (Cond.code yX7_play cX7_play 5 (some .int)) 1 60 D cy z0 ad u M X [.ref (ad 42)] z.1 z.2 := by
  refine bgc_i (by decide) (fun p e s m below meth c hC hw => ?_)
  refine en_t (Nat.le_of_ble_eq_true rfl) (fun ls hl => ?_)
  have hl : lv_has ls 5 [(0, .ref (ad 42))] := hl
  exact k_X7_play hC hf hw hl
set_option maxRecDepth 100000 in
set_option maxHeartbeats 4000000 in
theorem k_X11_stage_102 {p : Program} {l : Launch} {e : Env} {s : State} {m : MethodId} {args : Array Value} {below : List Frame} {meth : Method} {c : Code} {D : va_G} {cy : Nat → ClassId} {z0 : Nat} {ad : Nat → Nat} {X : va_W} {u : Nat × Nat} (hC : cx_C p s m args meth c cX11_stage "RhymedThen" (Cond.code yX11_stage cX11_stage 8 (some .int)) 8 (some .int)) {z : (Int32 × mm_M)} {c0 : Nat} {x1 : Int32} {x2 : Int32} {x3 : Int32} {x4 : Int32} {x5 : Int32} {x6 : Int32} {M : mm_M} (hc0 : c0 ≤ M.2.2) {q38 : Int32 → Int32 → Int32 → Int32 → Int32 → Int32 → mm_M → Option (Int32 × mm_M)} (hq38 : ∀ (x1 : Int32) (x2 : Int32) (x3 : Int32) (x4 : Int32) (x5 : Int32) (x6 : Int32) (M : mm_M) (u : Nat × Nat) (H : Heap) (locs : List Loc) (ls : Array Slot), c0 ≤ M.2.2 → q38 x1 x2 x3 x4 x5 x6 M = some z → wd_in cx_T D cy z0 ad u M X s H locs → lv_has ls 8 [(0, .ref (ad 0)), (1, .int x1), (2, .int x2), (3, .int x3), (4, .int x4), (5, .int x5), (6, .int x6)] → W p l e { frames := 7, cells := 2 * (z.2.2.2 - c0), slots := 52 * (z.2.2.2 - c0), locals := 215 } s m args below meth c H locs (2 * (M.2.2 - c0)) (52 * (M.2.2 - c0)) (MQ below (aq_i cx_T D cy z0 ad X z.1 z.2) args s (2 * (z.2.2.2 - c0)) (52 * (z.2.2.2 - c0)) (fun q => z0 ≤ q)) (F0 m 38 ls [])) (hm38 : ∀ (x1 : Int32) (x2 : Int32) (x3 : Int32) (x4 : Int32) (x5 : Int32) (x6 : Int32) (M : mm_M), q38 x1 x2 x3 x4 x5 x6 M = some z → M.2.2 ≤ z.2.2.2) (hf : f_X11_stage_102 q38 x1 x2 x3 x4 x5 x6 M = some z) {H : Heap} {locs : List Loc} (hw : wd_in cx_T D cy z0 ad u M X s H locs) {ls : Array Slot} (hl : lv_has ls 8 [(0, .ref (ad 0)), (1, .int x1), (2, .int x2), (3, .int x3), (4, .int x4), (5, .int x5), (6, .int x6)]) : W p l e { frames := 7, cells := 2 * (z.2.2.2 - c0), slots := 52 * (z.2.2.2 - c0), locals := 215 } s m args below meth c H locs (2 * (M.2.2 - c0)) (52 * (M.2.2 - c0)) (MQ below (aq_i cx_T D cy z0 ad X z.1 z.2) args s (2 * (z.2.2.2 - c0)) (52 * (z.2.2.2 - c0)) (fun q => z0 ≤ q)) (F0 m 102 ls []) := by
  have hx := hC.1
  have hb := hC.2.1
  have hmz : M.2.2 ≤ z.2.2.2 := mo_X11_stage_102 hm38 hf
  unfold f_X11_stage_102 at hf
  obtain ⟨y17, ey17, hf⟩ := sq_e hf
  refine lv_iinc (v := y17) (lv' := [(6, .int y17), (0, .ref (ad 0)), (1, .int x1), (2, .int x2), (3, .int x3), (4, .int x4), (5, .int x5)]) hx hb dX11_stage_102 hl (k := 6) rfl (by rw [ey17]; rfl) (by decide) rfl (fun ls hl => ?_)
  refine lv_goto (tgt := 38) hx hb dX11_stage_105 (by decide) ?_
  refine W.widen (k := 2 * (M.2.2 - c0)) (n := 52 * (M.2.2 - c0)) (by omega) (by omega) ?_
  exact hq38 _ _ _ _ _ _ _ _ _ _ _ (by omega) hf hw (lv_sub hl [1, 2, 3, 4, 5, 6, 0] rfl)
set_option maxRecDepth 100000 in
set_option maxHeartbeats 4000000 in
theorem k_X11_stage_222 {p : Program} {l : Launch} {e : Env} {s : State} {m : MethodId} {args : Array Value} {below : List Frame} {meth : Method} {c : Code} {D : va_G} {cy : Nat → ClassId} {z0 : Nat} {ad : Nat → Nat} {X : va_W} {u : Nat × Nat} (hC : cx_C p s m args meth c cX11_stage "RhymedThen" (Cond.code yX11_stage cX11_stage 8 (some .int)) 8 (some .int)) {z : (Int32 × mm_M)} {c0 : Nat} {x6 : Int32} {M : mm_M} (hc0 : c0 ≤ M.2.2) {q177 : Int32 → mm_M → Option (Int32 × mm_M)} (hq177 : ∀ (x6 : Int32) (M : mm_M) (u : Nat × Nat) (H : Heap) (locs : List Loc) (ls : Array Slot), c0 ≤ M.2.2 → q177 x6 M = some z → wd_in cx_T D cy z0 ad u M X s H locs → lv_has ls 8 [(0, .ref (ad 0)), (6, .int x6)] → W p l e { frames := 7, cells := 2 * (z.2.2.2 - c0), slots := 52 * (z.2.2.2 - c0), locals := 215 } s m args below meth c H locs (2 * (M.2.2 - c0)) (52 * (M.2.2 - c0)) (MQ below (aq_i cx_T D cy z0 ad X z.1 z.2) args s (2 * (z.2.2.2 - c0)) (52 * (z.2.2.2 - c0)) (fun q => z0 ≤ q)) (F0 m 177 ls [])) (hm177 : ∀ (x6 : Int32) (M : mm_M), q177 x6 M = some z → M.2.2 ≤ z.2.2.2) (hf : f_X11_stage_222 q177 x6 M = some z) {H : Heap} {locs : List Loc} (hw : wd_in cx_T D cy z0 ad u M X s H locs) {ls : Array Slot} (hl : lv_has ls 8 [(0, .ref (ad 0)), (6, .int x6)]) : W p l e { frames := 7, cells := 2 * (z.2.2.2 - c0), slots := 52 * (z.2.2.2 - c0), locals := 215 } s m args below meth c H locs (2 * (M.2.2 - c0)) (52 * (M.2.2 - c0)) (MQ below (aq_i cx_T D cy z0 ad X z.1 z.2) args s (2 * (z.2.2.2 - c0)) (52 * (z.2.2.2 - c0)) (fun q => z0 ≤ q)) (F0 m 222 ls []) := by
  have hx := hC.1
  have hb := hC.2.1
  have hmz : M.2.2 ≤ z.2.2.2 := mo_X11_stage_222 hm177 hf
  unfold f_X11_stage_222 at hf
  obtain ⟨y33, ey33, hf⟩ := sq_e hf
  refine lv_iinc (v := y33) (lv' := [(6, .int y33), (0, .ref (ad 0))]) hx hb dX11_stage_222 hl (k := 1) rfl (by rw [ey33]; rfl) (by decide) rfl (fun ls hl => ?_)
  refine lv_goto (tgt := 177) hx hb dX11_stage_225 (by decide) ?_
  refine W.widen (k := 2 * (M.2.2 - c0)) (n := 52 * (M.2.2 - c0)) (by omega) (by omega) ?_
  exact hq177 _ _ _ _ _ _ (by omega) hf hw (lv_sub hl [1, 0] rfl)
set_option maxRecDepth 100000 in
set_option maxHeartbeats 4000000 in
theorem k_X11_stage_247 {p : Program} {l : Launch} {e : Env} {s : State} {m : MethodId} {args : Array Value} {below : List Frame} {meth : Method} {c : Code} {D : va_G} {cy : Nat → ClassId} {z0 : Nat} {ad : Nat → Nat} {X : va_W} {u : Nat × Nat} (hC : cx_C p s m args meth c cX11_stage "RhymedThen" (Cond.code yX11_stage cX11_stage 8 (some .int)) 8 (some .int)) {z : (Int32 × mm_M)} {c0 : Nat} {x6 : Int32} {x7 : Int32} {M : mm_M} (hc0 : c0 ≤ M.2.2) {q247 : Int32 → Int32 → mm_M → Option (Int32 × mm_M)} (hq247 : ∀ (x6 : Int32) (x7 : Int32) (M : mm_M) (u : Nat × Nat) (H : Heap) (locs : List Loc) (ls : Array Slot), c0 ≤ M.2.2 → q247 x6 x7 M = some z → wd_in cx_T D cy z0 ad u M X s H locs → lv_has ls 8 [(0, .ref (ad 0)), (6, .int x6), (7, .int x7)] → W p l e { frames := 7, cells := 2 * (z.2.2.2 - c0), slots := 52 * (z.2.2.2 - c0), locals := 215 } s m args below meth c H locs (2 * (M.2.2 - c0)) (52 * (M.2.2 - c0)) (MQ below (aq_i cx_T D cy z0 ad X z.1 z.2) args s (2 * (z.2.2.2 - c0)) (52 * (z.2.2.2 - c0)) (fun q => z0 ≤ q)) (F0 m 247 ls [])) (hm247 : ∀ (x6 : Int32) (x7 : Int32) (M : mm_M), q247 x6 x7 M = some z → M.2.2 ≤ z.2.2.2) (hf : f_X11_stage_247 q247 x6 x7 M = some z) {H : Heap} {locs : List Loc} (hw : wd_in cx_T D cy z0 ad u M X s H locs) {ls : Array Slot} (hl : lv_has ls 8 [(0, .ref (ad 0)), (6, .int x6), (7, .int x7)]) : W p l e { frames := 7, cells := 2 * (z.2.2.2 - c0), slots := 52 * (z.2.2.2 - c0), locals := 215 } s m args below meth c H locs (2 * (M.2.2 - c0)) (52 * (M.2.2 - c0)) (MQ below (aq_i cx_T D cy z0 ad X z.1 z.2) args s (2 * (z.2.2.2 - c0)) (52 * (z.2.2.2 - c0)) (fun q => z0 ≤ q)) (F0 m 247 ls []) := by
  have hx := hC.1
  have hb := hC.2.1
  have hmz : M.2.2 ≤ z.2.2.2 := mo_X11_stage_247 hm247 hf
  unfold f_X11_stage_247 at hf
  refine lv_iload hx hb dX11_stage_247 (lv_at hl 2 rfl) ?_
  refine lv_aload_n hx hb dX11_stage_249 rfl (lv_at hl 0 rfl) ?_
  refine rg_p hC hw 0 (Nat.le_of_ble_eq_true rfl) rfl fd_X11_7 wf_X11_65 (q := 42) rfl dX11_stage_250 ?_
  refine rg_i hC hw 42 (Nat.le_of_ble_eq_true rfl) rfl fd_X7_1 wf_X11_400 dX11_stage_253 ?_
  refine lv_icmp_ge (tgt := 301) hx hb dX11_stage_256 (by decide) (fun c34 => ?_) (fun c34 => ?_)
  · rw [if_pos c34] at hf
    refine lv_iload hx hb dX11_stage_301 (lv_at hl 1 rfl) ?_
    refine W.widen (k := 2 * (z.2.2.2 - c0)) (n := 52 * (z.2.2.2 - c0)) (by omega) (by omega) ?_
    have hz := Option.some.inj hf
    subst hz
    exact rta_i hC hw dX11_stage_303
  · rw [if_neg c34] at hf
    refine lv_aload_n hx hb dX11_stage_259 rfl (lv_at hl 0 rfl) ?_
    refine rg_p hC hw 0 (Nat.le_of_ble_eq_true rfl) rfl fd_X11_1 wf_X11_19 (q := 3) rfl dX11_stage_260 ?_
    refine lv_aload_n hx hb dX11_stage_263 rfl (lv_at hl 0 rfl) ?_
    refine rg_p hC hw 0 (Nat.le_of_ble_eq_true rfl) rfl fd_X11_7 wf_X11_65 (q := 42) rfl dX11_stage_264 ?_
    refine rg_p hC hw 42 (Nat.le_of_ble_eq_true rfl) rfl fd_X7_2 wf_X11_403 (q := 43) rfl dX11_stage_267 ?_
    refine lv_iload hx hb dX11_stage_270 (lv_at hl 2 rfl) ?_
    obtain ⟨h35, hf⟩ := ck_e hf
    refine ra_i hC hw 43 (Nat.le_of_ble_eq_true rfl) rfl h35 dX11_stage_272 ?_
    refine lv_i2l hx hb dX11_stage_273 rfl ?_
    obtain ⟨z36, ez36, hf⟩ := bd_e hf
    have mz36 : M.2.2 ≤ z36.2.2 := mo_X4_add ez36
    refine clc_Vv hC hw (c_X4_add ez36) hd_X4_add cw_X11_214 (Nat.le_of_ble_eq_true rfl) rfl rfl (rest := []) hl.1 rfl (Nat.le_of_ble_eq_true rfl) ⟨Nat.le_of_ble_eq_true rfl, Nat.le_of_ble_eq_true rfl⟩ ⟨(show 2 * (M.2.2 - c0) ≤ 2 * (z.2.2.2 - c0) by omega), (show 52 * (M.2.2 - c0) ≤ 52 * (z.2.2.2 - c0) by omega)⟩ rfl dX11_stage_274 (fun H locs hw => ?_)
    refine lv_aload_n hx hb dX11_stage_277 rfl (lv_at hl 0 rfl) ?_
    refine rg_p hC hw 0 (Nat.le_of_ble_eq_true rfl) rfl fd_X11_1 wf_X11_19 (q := 3) rfl dX11_stage_278 ?_
    refine lv_aload_n hx hb dX11_stage_281 rfl (lv_at hl 0 rfl) ?_
    refine rg_p hC hw 0 (Nat.le_of_ble_eq_true rfl) rfl fd_X11_7 wf_X11_65 (q := 42) rfl dX11_stage_282 ?_
    refine rg_p hC hw 42 (Nat.le_of_ble_eq_true rfl) rfl fd_X7_3 wf_X11_405 (q := 44) rfl dX11_stage_285 ?_
    refine lv_iload hx hb dX11_stage_288 (lv_at hl 2 rfl) ?_
    obtain ⟨h37, hf⟩ := ck_e hf
    refine ra_i hC hw 44 (Nat.le_of_ble_eq_true rfl) rfl h37 dX11_stage_290 ?_
    refine lv_i2l hx hb dX11_stage_291 rfl ?_
    obtain ⟨z38, ez38, hf⟩ := bd_e hf
    have mz38 : z36.2.2 ≤ z38.2.2 := mo_X4_add ez38
    refine clc_Vv hC hw (c_X4_add ez38) hd_X4_add cw_X11_214 (Nat.le_of_ble_eq_true rfl) rfl rfl (rest := []) hl.1 rfl (Nat.le_of_ble_eq_true rfl) ⟨Nat.le_of_ble_eq_true rfl, Nat.le_of_ble_eq_true rfl⟩ ⟨(show 2 * (M.2.2 - c0) ≤ 2 * (z.2.2.2 - c0) by omega), (show 52 * (M.2.2 - c0) ≤ 52 * (z.2.2.2 - c0) by omega)⟩ rfl dX11_stage_292 (fun H locs hw => ?_)
    obtain ⟨y39, ey39, hf⟩ := sq_e hf
    refine lv_iinc (v := y39) (lv' := [(7, .int y39), (0, .ref (ad 0)), (6, .int x6)]) hx hb dX11_stage_295 hl (k := 2) rfl (by rw [ey39]; rfl) (by decide) rfl (fun ls hl => ?_)
    refine lv_goto (tgt := 247) hx hb dX11_stage_298 (by decide) ?_
    refine W.widen (k := 2 * (z38.2.2 - c0)) (n := 52 * (z38.2.2 - c0)) (by omega) (by omega) ?_
    exact hq247 _ _ _ _ _ _ _ (by omega) hf hw (lv_sub hl [1, 2, 0] rfl)
set_option maxRecDepth 100000 in
set_option maxHeartbeats 4000000 in
theorem k_X11_stage_247l {p : Program} {l : Launch} {e : Env} {s : State} {m : MethodId} {args : Array Value} {below : List Frame} {meth : Method} {c : Code} {D : va_G} {cy : Nat → ClassId} {z0 : Nat} {ad : Nat → Nat} {X : va_W} (hC : cx_C p s m args meth c cX11_stage "RhymedThen" (Cond.code yX11_stage cX11_stage 8 (some .int)) 8 (some .int)) {z : (Int32 × mm_M)} {c0 : Nat} : ∀ (n : Nat) (x6 : Int32) (x7 : Int32) (M : mm_M) (u : Nat × Nat) (H : Heap) (locs : List Loc) (ls : Array Slot), c0 ≤ M.2.2 → f_X11_stage_247l n x6 x7 M = some z → wd_in cx_T D cy z0 ad u M X s H locs → lv_has ls 8 [(0, .ref (ad 0)), (6, .int x6), (7, .int x7)] → W p l e { frames := 7, cells := 2 * (z.2.2.2 - c0), slots := 52 * (z.2.2.2 - c0), locals := 215 } s m args below meth c H locs (2 * (M.2.2 - c0)) (52 * (M.2.2 - c0)) (MQ below (aq_i cx_T D cy z0 ad X z.1 z.2) args s (2 * (z.2.2.2 - c0)) (52 * (z.2.2.2 - c0)) (fun q => z0 ≤ q)) (F0 m 247 ls []) := by
  intro n
  induction n with
  | zero => intro x6 x7 M u H locs ls hc0 hf; exact absurd hf (by simp [f_X11_stage_247l])
  | succ n ih => intro x6 x7 M u H locs ls hc0 hf hw hl; exact k_X11_stage_247 hC hc0 ih (mo_X11_stage_247l n) hf hw hl
set_option maxRecDepth 100000 in
set_option maxHeartbeats 4000000 in
theorem k_X11_stage_228 {p : Program} {l : Launch} {e : Env} {s : State} {m : MethodId} {args : Array Value} {below : List Frame} {meth : Method} {c : Code} {D : va_G} {cy : Nat → ClassId} {z0 : Nat} {ad : Nat → Nat} {X : va_W} {u : Nat × Nat} (hC : cx_C p s m args meth c cX11_stage "RhymedThen" (Cond.code yX11_stage cX11_stage 8 (some .int)) 8 (some .int)) {z : (Int32 × mm_M)} {c0 : Nat} {M : mm_M} (hc0 : c0 ≤ M.2.2) (hf : f_X11_stage_228 M = some z) {H : Heap} {locs : List Loc} (hw : wd_in cx_T D cy z0 ad u M X s H locs) {ls : Array Slot} (hl : lv_has ls 8 [(0, .ref (ad 0))]) : W p l e { frames := 7, cells := 2 * (z.2.2.2 - c0), slots := 52 * (z.2.2.2 - c0), locals := 215 } s m args below meth c H locs (2 * (M.2.2 - c0)) (52 * (M.2.2 - c0)) (MQ below (aq_i cx_T D cy z0 ad X z.1 z.2) args s (2 * (z.2.2.2 - c0)) (52 * (z.2.2.2 - c0)) (fun q => z0 ≤ q)) (F0 m 228 ls []) := by
  have hx := hC.1
  have hb := hC.2.1
  have hmz : M.2.2 ≤ z.2.2.2 := mo_X11_stage_228 hf
  unfold f_X11_stage_228 at hf
  refine lv_aload_n hx hb dX11_stage_228 rfl (lv_at hl 0 rfl) ?_
  refine rg_p hC hw 0 (Nat.le_of_ble_eq_true rfl) rfl fd_X11_7 wf_X11_65 (q := 42) rfl dX11_stage_229 ?_
  obtain ⟨z31, ez31, hf⟩ := bd_e hf
  have mz31 : M.2.2 ≤ z31.2.2.2 := mo_X7_play ez31
  refine clc_Vi hC hw (c_X7_play ez31) hd_X7_play cw_X11_397 (Nat.le_of_ble_eq_true rfl) rfl rfl (rest := []) hl.1 rfl (Nat.le_of_ble_eq_true rfl) ⟨Nat.le_of_ble_eq_true rfl, Nat.le_of_ble_eq_true rfl⟩ ⟨(show 2 * (M.2.2 - c0) ≤ 2 * (z.2.2.2 - c0) by omega), (show 52 * (M.2.2 - c0) ≤ 52 * (z.2.2.2 - c0) by omega)⟩ rfl dX11_stage_232 (fun H locs hw => ?_)
  refine lv_istore (lv' := [(6, .int z31.1), (0, .ref (ad 0))]) hx hb dX11_stage_235 hl (by decide) rfl (fun ls hl => ?_)
  refine lv_aload_n hx hb dX11_stage_237 rfl (lv_at hl 1 rfl) ?_
  refine rg_p hC hw 0 (Nat.le_of_ble_eq_true rfl) rfl fd_X11_1 wf_X11_19 (q := 3) rfl dX11_stage_238 ?_
  obtain ⟨z32, ez32, hf⟩ := sq_e hf
  have mz32 : z31.2.2.2 ≤ z32.2.2 := mo_X4_clear ez32.symm
  refine clc_Vv hC hw (c_X4_clear ez32.symm) hd_X4_clear cw_X11_192 (Nat.le_of_ble_eq_true rfl) rfl rfl (rest := []) hl.1 rfl (Nat.le_of_ble_eq_true rfl) ⟨Nat.le_of_ble_eq_true rfl, Nat.le_of_ble_eq_true rfl⟩ ⟨(show 2 * (M.2.2 - c0) ≤ 2 * (z.2.2.2 - c0) by omega), (show 52 * (M.2.2 - c0) ≤ 52 * (z.2.2.2 - c0) by omega)⟩ rfl dX11_stage_241 (fun H locs hw => ?_)
  refine lv_iconst (v := 0) hx hb dX11_stage_244 (by decide) ?_
  refine lv_istore (lv' := [(7, .int 0), (6, .int z31.1), (0, .ref (ad 0))]) hx hb dX11_stage_245 hl (by decide) rfl (fun ls hl => ?_)
  refine W.widen (k := 2 * (z32.2.2 - c0)) (n := 52 * (z32.2.2 - c0)) (by omega) (by omega) ?_
  exact k_X11_stage_247l hC fu_ _ _ _ _ _ _ _ (by omega) hf hw (lv_sub hl [2, 1, 0] rfl)
set_option maxRecDepth 100000 in
set_option maxHeartbeats 4000000 in
theorem k_X11_stage_177 {p : Program} {l : Launch} {e : Env} {s : State} {m : MethodId} {args : Array Value} {below : List Frame} {meth : Method} {c : Code} {D : va_G} {cy : Nat → ClassId} {z0 : Nat} {ad : Nat → Nat} {X : va_W} {u : Nat × Nat} (hC : cx_C p s m args meth c cX11_stage "RhymedThen" (Cond.code yX11_stage cX11_stage 8 (some .int)) 8 (some .int)) {z : (Int32 × mm_M)} {c0 : Nat} {x6 : Int32} {M : mm_M} (hc0 : c0 ≤ M.2.2) {q177 : Int32 → mm_M → Option (Int32 × mm_M)} (hq177 : ∀ (x6 : Int32) (M : mm_M) (u : Nat × Nat) (H : Heap) (locs : List Loc) (ls : Array Slot), c0 ≤ M.2.2 → q177 x6 M = some z → wd_in cx_T D cy z0 ad u M X s H locs → lv_has ls 8 [(0, .ref (ad 0)), (6, .int x6)] → W p l e { frames := 7, cells := 2 * (z.2.2.2 - c0), slots := 52 * (z.2.2.2 - c0), locals := 215 } s m args below meth c H locs (2 * (M.2.2 - c0)) (52 * (M.2.2 - c0)) (MQ below (aq_i cx_T D cy z0 ad X z.1 z.2) args s (2 * (z.2.2.2 - c0)) (52 * (z.2.2.2 - c0)) (fun q => z0 ≤ q)) (F0 m 177 ls [])) (hm177 : ∀ (x6 : Int32) (M : mm_M), q177 x6 M = some z → M.2.2 ≤ z.2.2.2) (hf : f_X11_stage_177 q177 x6 M = some z) {H : Heap} {locs : List Loc} (hw : wd_in cx_T D cy z0 ad u M X s H locs) {ls : Array Slot} (hl : lv_has ls 8 [(0, .ref (ad 0)), (6, .int x6)]) : W p l e { frames := 7, cells := 2 * (z.2.2.2 - c0), slots := 52 * (z.2.2.2 - c0), locals := 215 } s m args below meth c H locs (2 * (M.2.2 - c0)) (52 * (M.2.2 - c0)) (MQ below (aq_i cx_T D cy z0 ad X z.1 z.2) args s (2 * (z.2.2.2 - c0)) (52 * (z.2.2.2 - c0)) (fun q => z0 ≤ q)) (F0 m 177 ls []) := by
  have hx := hC.1
  have hb := hC.2.1
  have hmz : M.2.2 ≤ z.2.2.2 := mo_X11_stage_177 hm177 hf
  unfold f_X11_stage_177 at hf
  refine lv_iload hx hb dX11_stage_177 (lv_at hl 1 rfl) ?_
  refine lv_aload_n hx hb dX11_stage_179 rfl (lv_at hl 0 rfl) ?_
  refine rg_p hC hw 0 (Nat.le_of_ble_eq_true rfl) rfl fd_X11_4 wf_X11_44 (q := 19) rfl dX11_stage_180 ?_
  refine rg_i hC hw 19 (Nat.le_of_ble_eq_true rfl) rfl fd_X6_3 wf_X11_251 dX11_stage_183 ?_
  refine lv_icmp_ge (tgt := 228) hx hb dX11_stage_186 (by decide) (fun c26 => ?_) (fun c26 => ?_)
  · rw [if_pos c26] at hf
    refine W.widen (k := 2 * (M.2.2 - c0)) (n := 52 * (M.2.2 - c0)) (by omega) (by omega) ?_
    exact k_X11_stage_228 hC (by omega) hf hw (lv_sub hl [0] rfl)
  · rw [if_neg c26] at hf
    refine lv_aload_n hx hb dX11_stage_189 rfl (lv_at hl 0 rfl) ?_
    refine rg_p hC hw 0 (Nat.le_of_ble_eq_true rfl) rfl fd_X11_4 wf_X11_44 (q := 19) rfl dX11_stage_190 ?_
    refine lv_iload hx hb dX11_stage_193 (lv_at hl 1 rfl) ?_
    obtain ⟨z27, ez27, hf⟩ := bd_e hf
    refine clc_Vi hC hw (c_X6_isStaged ez27) hd_X6_isStaged cw_X11_383 (Nat.le_of_ble_eq_true rfl) rfl rfl (rest := []) hl.1 rfl (Nat.le_of_ble_eq_true rfl) ⟨Nat.le_of_ble_eq_true rfl, Nat.le_of_ble_eq_true rfl⟩ ⟨(show 2 * (M.2.2 - c0) ≤ 2 * (z.2.2.2 - c0) by omega), (show 52 * (M.2.2 - c0) ≤ 52 * (z.2.2.2 - c0) by omega)⟩ rfl dX11_stage_195 (fun H locs hw => ?_)
    refine lv_if_eq (tgt := 222) hx hb dX11_stage_198 (by decide) (fun c28 => ?_) (fun c28 => ?_)
    · rw [if_pos c28] at hf
      refine W.widen (k := 2 * (M.2.2 - c0)) (n := 52 * (M.2.2 - c0)) (by omega) (by omega) ?_
      exact k_X11_stage_222 hC (by omega) hq177 hm177 hf hw (lv_sub hl [0, 1] rfl)
    · rw [if_neg c28] at hf
      refine lv_aload_n hx hb dX11_stage_201 rfl (lv_at hl 0 rfl) ?_
      refine rg_p hC hw 0 (Nat.le_of_ble_eq_true rfl) rfl fd_X11_7 wf_X11_65 (q := 42) rfl dX11_stage_202 ?_
      refine lv_aload_n hx hb dX11_stage_205 rfl (lv_at hl 0 rfl) ?_
      refine rg_p hC hw 0 (Nat.le_of_ble_eq_true rfl) rfl fd_X11_4 wf_X11_44 (q := 19) rfl dX11_stage_206 ?_
      refine rg_p hC hw 19 (Nat.le_of_ble_eq_true rfl) rfl fd_X6_2 wf_X11_260 (q := 20) rfl dX11_stage_209 ?_
      refine lv_iload hx hb dX11_stage_212 (lv_at hl 1 rfl) ?_
      obtain ⟨h29, hf⟩ := ck_e hf
      refine ra_S hC hw 20 (Nat.le_of_ble_eq_true rfl) rfl h29 dX11_stage_214 ?_
      refine lv_aload_n hx hb dX11_stage_215 rfl (lv_at hl 0 rfl) ?_
      refine rg_p hC hw 0 (Nat.le_of_ble_eq_true rfl) rfl fd_X11_2 wf_X11_26 (q := 5) rfl dX11_stage_216 ?_
      obtain ⟨z30, ez30, hf⟩ := bd_e hf
      have mz30 : M.2.2 ≤ z30.2.2 := mo_X7_addPair ez30
      refine clc_Vv hC hw (c_X7_addPair (sg_ix h29) ez30) hd_X7_addPair cw_X11_393 (Nat.le_of_ble_eq_true rfl) rfl rfl (rest := []) hl.1 rfl (Nat.le_of_ble_eq_true rfl) ⟨Nat.le_of_ble_eq_true rfl, Nat.le_of_ble_eq_true rfl⟩ ⟨(show 2 * (M.2.2 - c0) ≤ 2 * (z.2.2.2 - c0) by omega), (show 52 * (M.2.2 - c0) ≤ 52 * (z.2.2.2 - c0) by omega)⟩ rfl dX11_stage_219 (fun H locs hw => ?_)
      refine W.widen (k := 2 * (z30.2.2 - c0)) (n := 52 * (z30.2.2 - c0)) (by omega) (by omega) ?_
      exact k_X11_stage_222 hC (by omega) hq177 hm177 hf hw (lv_sub hl [0, 1] rfl)
set_option maxRecDepth 100000 in
set_option maxHeartbeats 4000000 in
theorem k_X11_stage_177l {p : Program} {l : Launch} {e : Env} {s : State} {m : MethodId} {args : Array Value} {below : List Frame} {meth : Method} {c : Code} {D : va_G} {cy : Nat → ClassId} {z0 : Nat} {ad : Nat → Nat} {X : va_W} (hC : cx_C p s m args meth c cX11_stage "RhymedThen" (Cond.code yX11_stage cX11_stage 8 (some .int)) 8 (some .int)) {z : (Int32 × mm_M)} {c0 : Nat} : ∀ (n : Nat) (x6 : Int32) (M : mm_M) (u : Nat × Nat) (H : Heap) (locs : List Loc) (ls : Array Slot), c0 ≤ M.2.2 → f_X11_stage_177l n x6 M = some z → wd_in cx_T D cy z0 ad u M X s H locs → lv_has ls 8 [(0, .ref (ad 0)), (6, .int x6)] → W p l e { frames := 7, cells := 2 * (z.2.2.2 - c0), slots := 52 * (z.2.2.2 - c0), locals := 215 } s m args below meth c H locs (2 * (M.2.2 - c0)) (52 * (M.2.2 - c0)) (MQ below (aq_i cx_T D cy z0 ad X z.1 z.2) args s (2 * (z.2.2.2 - c0)) (52 * (z.2.2.2 - c0)) (fun q => z0 ≤ q)) (F0 m 177 ls []) := by
  intro n
  induction n with
  | zero => intro x6 M u H locs ls hc0 hf; exact absurd hf (by simp [f_X11_stage_177l])
  | succ n ih => intro x6 M u H locs ls hc0 hf hw hl; exact k_X11_stage_177 hC hc0 ih (mo_X11_stage_177l n) hf hw hl
set_option maxRecDepth 100000 in
set_option maxHeartbeats 4000000 in
theorem k_X11_stage_173 {p : Program} {l : Launch} {e : Env} {s : State} {m : MethodId} {args : Array Value} {below : List Frame} {meth : Method} {c : Code} {D : va_G} {cy : Nat → ClassId} {z0 : Nat} {ad : Nat → Nat} {X : va_W} {u : Nat × Nat} (hC : cx_C p s m args meth c cX11_stage "RhymedThen" (Cond.code yX11_stage cX11_stage 8 (some .int)) 8 (some .int)) {z : (Int32 × mm_M)} {c0 : Nat} {t1 : Int32} {t2 : Int32} {M : mm_M} (hc0 : c0 ≤ M.2.2) (hf : f_X11_stage_173 t1 t2 M = some z) {H : Heap} {locs : List Loc} (hw : wd_in cx_T D cy z0 ad u M X s H locs) {ls : Array Slot} (hl : lv_has ls 8 [(0, .ref (ad 0))]) : W p l e { frames := 7, cells := 2 * (z.2.2.2 - c0), slots := 52 * (z.2.2.2 - c0), locals := 215 } s m args below meth c H locs (2 * (M.2.2 - c0)) (52 * (M.2.2 - c0)) (MQ below (aq_i cx_T D cy z0 ad X z.1 z.2) args s (2 * (z.2.2.2 - c0)) (52 * (z.2.2.2 - c0)) (fun q => z0 ≤ q)) (F0 m 173 ls [.int t2, .int t1, .ref (ad 45)]) := by
  have hx := hC.1
  have hb := hC.2.1
  have hmz : M.2.2 ≤ z.2.2.2 := mo_X11_stage_173 hf
  unfold f_X11_stage_173 at hf
  obtain ⟨h24, hf⟩ := ck_e hf
  obtain ⟨M25, eM25, hf⟩ := sq_e hf
  have mM25 : M.2.2 ≤ M25.2.2 := by rw [eM25]; exact Nat.le_refl _
  refine rs_i hC hw 45 (Nat.le_of_ble_eq_true rfl) rfl h24 dX11_stage_173 eM25 (fun H locs hw => ?_)
  refine lv_iconst (v := 0) hx hb dX11_stage_174 (by decide) ?_
  refine lv_istore (lv' := [(6, .int 0), (0, .ref (ad 0))]) hx hb dX11_stage_175 hl (by decide) rfl (fun ls hl => ?_)
  refine W.widen (k := 2 * (M25.2.2 - c0)) (n := 52 * (M25.2.2 - c0)) (by omega) (by omega) ?_
  exact k_X11_stage_177l hC fu_ _ _ _ _ _ _ (by omega) hf hw (lv_sub hl [1, 0] rfl)
set_option maxRecDepth 100000 in
set_option maxHeartbeats 4000000 in
theorem k_X11_stage_153 {p : Program} {l : Launch} {e : Env} {s : State} {m : MethodId} {args : Array Value} {below : List Frame} {meth : Method} {c : Code} {D : va_G} {cy : Nat → ClassId} {z0 : Nat} {ad : Nat → Nat} {X : va_W} {u : Nat × Nat} (hC : cx_C p s m args meth c cX11_stage "RhymedThen" (Cond.code yX11_stage cX11_stage 8 (some .int)) 8 (some .int)) {z : (Int32 × mm_M)} {c0 : Nat} {x1 : Int32} {x2 : Int32} {x5 : Int32} {t1 : Int32} {t2 : Int32} {M : mm_M} (hc0 : c0 ≤ M.2.2) (hf : f_X11_stage_153 x1 x2 x5 t1 t2 M = some z) {H : Heap} {locs : List Loc} (hw : wd_in cx_T D cy z0 ad u M X s H locs) {ls : Array Slot} (hl : lv_has ls 8 [(0, .ref (ad 0)), (1, .int x1), (2, .int x2), (5, .int x5)]) : W p l e { frames := 7, cells := 2 * (z.2.2.2 - c0), slots := 52 * (z.2.2.2 - c0), locals := 215 } s m args below meth c H locs (2 * (M.2.2 - c0)) (52 * (M.2.2 - c0)) (MQ below (aq_i cx_T D cy z0 ad X z.1 z.2) args s (2 * (z.2.2.2 - c0)) (52 * (z.2.2.2 - c0)) (fun q => z0 ≤ q)) (F0 m 153 ls [.int t2, .int t1, .ref (ad 45)]) := by
  have hx := hC.1
  have hb := hC.2.1
  have hmz : M.2.2 ≤ z.2.2.2 := mo_X11_stage_153 hf
  unfold f_X11_stage_153 at hf
  obtain ⟨h21, hf⟩ := ck_e hf
  obtain ⟨M22, eM22, hf⟩ := sq_e hf
  have mM22 : M.2.2 ≤ M22.2.2 := by rw [eM22]; exact Nat.le_refl _
  refine rs_i hC hw 45 (Nat.le_of_ble_eq_true rfl) rfl h21 dX11_stage_153 eM22 (fun H locs hw => ?_)
  refine lv_aload_n hx hb dX11_stage_154 rfl (lv_at hl 0 rfl) ?_
  refine rg_p hC hw 0 (Nat.le_of_ble_eq_true rfl) rfl fd_X11_7 wf_X11_65 (q := 42) rfl dX11_stage_155 ?_
  refine rg_p hC hw 42 (Nat.le_of_ble_eq_true rfl) rfl fd_X7_4 wf_X11_392 (q := 45) rfl dX11_stage_158 ?_
  refine lv_iconst (v := 2) hx hb dX11_stage_161 (by decide) ?_
  refine lv_aload_n hx hb dX11_stage_162 rfl (lv_at hl 0 rfl) ?_
  refine rg_p hC hw 0 (Nat.le_of_ble_eq_true rfl) rfl fd_X11_3 wf_X11_35 (q := 14) rfl dX11_stage_163 ?_
  refine lv_iload_n hx hb dX11_stage_166 rfl (lv_at hl 1 rfl) ?_
  refine lv_iload hx hb dX11_stage_167 (lv_at hl 3 rfl) ?_
  refine lv_iload_n hx hb dX11_stage_169 rfl (lv_at hl 2 rfl) ?_
  obtain ⟨z23, ez23, hf⟩ := bd_e hf
  have mz23 : M22.2.2 ≤ z23.2.2.2 := mo_X3_courseAt ez23
  have hnz : z23.2.2.2 ≤ z.2.2.2 := mo_X11_stage_173 hf
  refine cla_Vi hC hw (c_X3_courseAt ez23) hd_X3_courseAt cw_X11_195 (Nat.le_of_ble_eq_true rfl) rfl rfl (rest := [.int 2, .ref (ad 45)]) hl.1 rfl (Nat.le_of_ble_eq_true rfl) ⟨Nat.le_of_ble_eq_true rfl, Nat.le_of_ble_eq_true rfl⟩ ⟨(show 2 * (M.2.2 - c0) + 2 * (z23.2.2.2 - M22.2.2) ≤ 2 * (z.2.2.2 - c0) by omega), (show 52 * (M.2.2 - c0) + 52 * (z23.2.2.2 - M22.2.2) ≤ 52 * (z.2.2.2 - c0) by omega)⟩ rfl dX11_stage_170 (fun u H locs hw => ?_)
  refine W.widen (k := 2 * (z23.2.2.2 - c0)) (n := 52 * (z23.2.2.2 - c0)) (by omega) (by omega) ?_
  exact k_X11_stage_173 hC (by omega) hf hw (lv_sub hl [0] rfl)
set_option maxRecDepth 100000 in
set_option maxHeartbeats 4000000 in
theorem k_X11_stage_133 {p : Program} {l : Launch} {e : Env} {s : State} {m : MethodId} {args : Array Value} {below : List Frame} {meth : Method} {c : Code} {D : va_G} {cy : Nat → ClassId} {z0 : Nat} {ad : Nat → Nat} {X : va_W} {u : Nat × Nat} (hC : cx_C p s m args meth c cX11_stage "RhymedThen" (Cond.code yX11_stage cX11_stage 8 (some .int)) 8 (some .int)) {z : (Int32 × mm_M)} {c0 : Nat} {x1 : Int32} {x2 : Int32} {x4 : Int32} {x5 : Int32} {t1 : Int32} {t2 : Int32} {M : mm_M} (hc0 : c0 ≤ M.2.2) (hf : f_X11_stage_133 x1 x2 x4 x5 t1 t2 M = some z) {H : Heap} {locs : List Loc} (hw : wd_in cx_T D cy z0 ad u M X s H locs) {ls : Array Slot} (hl : lv_has ls 8 [(0, .ref (ad 0)), (1, .int x1), (2, .int x2), (4, .int x4), (5, .int x5)]) : W p l e { frames := 7, cells := 2 * (z.2.2.2 - c0), slots := 52 * (z.2.2.2 - c0), locals := 215 } s m args below meth c H locs (2 * (M.2.2 - c0)) (52 * (M.2.2 - c0)) (MQ below (aq_i cx_T D cy z0 ad X z.1 z.2) args s (2 * (z.2.2.2 - c0)) (52 * (z.2.2.2 - c0)) (fun q => z0 ≤ q)) (F0 m 133 ls [.int t2, .int t1, .ref (ad 45)]) := by
  have hx := hC.1
  have hb := hC.2.1
  have hmz : M.2.2 ≤ z.2.2.2 := mo_X11_stage_133 hf
  unfold f_X11_stage_133 at hf
  obtain ⟨h18, hf⟩ := ck_e hf
  obtain ⟨M19, eM19, hf⟩ := sq_e hf
  have mM19 : M.2.2 ≤ M19.2.2 := by rw [eM19]; exact Nat.le_refl _
  refine rs_i hC hw 45 (Nat.le_of_ble_eq_true rfl) rfl h18 dX11_stage_133 eM19 (fun H locs hw => ?_)
  refine lv_aload_n hx hb dX11_stage_134 rfl (lv_at hl 0 rfl) ?_
  refine rg_p hC hw 0 (Nat.le_of_ble_eq_true rfl) rfl fd_X11_7 wf_X11_65 (q := 42) rfl dX11_stage_135 ?_
  refine rg_p hC hw 42 (Nat.le_of_ble_eq_true rfl) rfl fd_X7_4 wf_X11_392 (q := 45) rfl dX11_stage_138 ?_
  refine lv_iconst (v := 1) hx hb dX11_stage_141 (by decide) ?_
  refine lv_aload_n hx hb dX11_stage_142 rfl (lv_at hl 0 rfl) ?_
  refine rg_p hC hw 0 (Nat.le_of_ble_eq_true rfl) rfl fd_X11_3 wf_X11_35 (q := 14) rfl dX11_stage_143 ?_
  refine lv_iload_n hx hb dX11_stage_146 rfl (lv_at hl 1 rfl) ?_
  refine lv_iload hx hb dX11_stage_147 (lv_at hl 3 rfl) ?_
  refine lv_iload_n hx hb dX11_stage_149 rfl (lv_at hl 2 rfl) ?_
  obtain ⟨z20, ez20, hf⟩ := bd_e hf
  have mz20 : M19.2.2 ≤ z20.2.2.2 := mo_X3_courseAt ez20
  have hnz : z20.2.2.2 ≤ z.2.2.2 := mo_X11_stage_153 hf
  refine cla_Vi hC hw (c_X3_courseAt ez20) hd_X3_courseAt cw_X11_195 (Nat.le_of_ble_eq_true rfl) rfl rfl (rest := [.int 1, .ref (ad 45)]) hl.1 rfl (Nat.le_of_ble_eq_true rfl) ⟨Nat.le_of_ble_eq_true rfl, Nat.le_of_ble_eq_true rfl⟩ ⟨(show 2 * (M.2.2 - c0) + 2 * (z20.2.2.2 - M19.2.2) ≤ 2 * (z.2.2.2 - c0) by omega), (show 52 * (M.2.2 - c0) + 52 * (z20.2.2.2 - M19.2.2) ≤ 52 * (z.2.2.2 - c0) by omega)⟩ rfl dX11_stage_150 (fun u H locs hw => ?_)
  refine W.widen (k := 2 * (z20.2.2.2 - c0)) (n := 52 * (z20.2.2.2 - c0)) (by omega) (by omega) ?_
  exact k_X11_stage_153 hC (by omega) hf hw (lv_sub hl [0, 1, 2, 4] rfl)
set_option maxRecDepth 100000 in
set_option maxHeartbeats 4000000 in
theorem k_X11_stage_108 {p : Program} {l : Launch} {e : Env} {s : State} {m : MethodId} {args : Array Value} {below : List Frame} {meth : Method} {c : Code} {D : va_G} {cy : Nat → ClassId} {z0 : Nat} {ad : Nat → Nat} {X : va_W} {u : Nat × Nat} (hC : cx_C p s m args meth c cX11_stage "RhymedThen" (Cond.code yX11_stage cX11_stage 8 (some .int)) 8 (some .int)) {z : (Int32 × mm_M)} {c0 : Nat} {x1 : Int32} {x2 : Int32} {x3 : Int32} {x4 : Int32} {x5 : Int32} {M : mm_M} (hc0 : c0 ≤ M.2.2) (hf : f_X11_stage_108 x1 x2 x3 x4 x5 M = some z) {H : Heap} {locs : List Loc} (hw : wd_in cx_T D cy z0 ad u M X s H locs) {ls : Array Slot} (hl : lv_has ls 8 [(0, .ref (ad 0)), (1, .int x1), (2, .int x2), (3, .int x3), (4, .int x4), (5, .int x5)]) : W p l e { frames := 7, cells := 2 * (z.2.2.2 - c0), slots := 52 * (z.2.2.2 - c0), locals := 215 } s m args below meth c H locs (2 * (M.2.2 - c0)) (52 * (M.2.2 - c0)) (MQ below (aq_i cx_T D cy z0 ad X z.1 z.2) args s (2 * (z.2.2.2 - c0)) (52 * (z.2.2.2 - c0)) (fun q => z0 ≤ q)) (F0 m 108 ls []) := by
  have hx := hC.1
  have hb := hC.2.1
  have hmz : M.2.2 ≤ z.2.2.2 := mo_X11_stage_108 hf
  unfold f_X11_stage_108 at hf
  refine lv_aload_n hx hb dX11_stage_108 rfl (lv_at hl 0 rfl) ?_
  refine rg_p hC hw 0 (Nat.le_of_ble_eq_true rfl) rfl fd_X11_7 wf_X11_65 (q := 42) rfl dX11_stage_109 ?_
  obtain ⟨z15, ez15, hf⟩ := bd_e hf
  have mz15 : M.2.2 ≤ z15.2.2 := mo_X7_seat ez15
  refine clc_Vv hC hw (c_X7_seat ez15) hd_X7_seat cw_X11_389 (Nat.le_of_ble_eq_true rfl) rfl rfl (rest := []) hl.1 rfl (Nat.le_of_ble_eq_true rfl) ⟨Nat.le_of_ble_eq_true rfl, Nat.le_of_ble_eq_true rfl⟩ ⟨(show 2 * (M.2.2 - c0) ≤ 2 * (z.2.2.2 - c0) by omega), (show 52 * (M.2.2 - c0) ≤ 52 * (z.2.2.2 - c0) by omega)⟩ rfl dX11_stage_112 (fun H locs hw => ?_)
  refine lv_aload_n hx hb dX11_stage_115 rfl (lv_at hl 0 rfl) ?_
  refine rg_p hC hw 0 (Nat.le_of_ble_eq_true rfl) rfl fd_X11_7 wf_X11_65 (q := 42) rfl dX11_stage_116 ?_
  refine rg_p hC hw 42 (Nat.le_of_ble_eq_true rfl) rfl fd_X7_4 wf_X11_392 (q := 45) rfl dX11_stage_119 ?_
  refine lv_iconst (v := 0) hx hb dX11_stage_122 (by decide) ?_
  refine lv_aload_n hx hb dX11_stage_123 rfl (lv_at hl 0 rfl) ?_
  refine rg_p hC hw 0 (Nat.le_of_ble_eq_true rfl) rfl fd_X11_3 wf_X11_35 (q := 14) rfl dX11_stage_124 ?_
  refine lv_iload_n hx hb dX11_stage_127 rfl (lv_at hl 1 rfl) ?_
  refine lv_iload_n hx hb dX11_stage_128 rfl (lv_at hl 3 rfl) ?_
  refine lv_iload_n hx hb dX11_stage_129 rfl (lv_at hl 2 rfl) ?_
  obtain ⟨z16, ez16, hf⟩ := bd_e hf
  have mz16 : z15.2.2 ≤ z16.2.2.2 := mo_X3_courseAt ez16
  have hnz : z16.2.2.2 ≤ z.2.2.2 := mo_X11_stage_133 hf
  refine cla_Vi hC hw (c_X3_courseAt ez16) hd_X3_courseAt cw_X11_195 (Nat.le_of_ble_eq_true rfl) rfl rfl (rest := [.int 0, .ref (ad 45)]) hl.1 rfl (Nat.le_of_ble_eq_true rfl) ⟨Nat.le_of_ble_eq_true rfl, Nat.le_of_ble_eq_true rfl⟩ ⟨(show 2 * (M.2.2 - c0) + 2 * (z16.2.2.2 - z15.2.2) ≤ 2 * (z.2.2.2 - c0) by omega), (show 52 * (M.2.2 - c0) + 52 * (z16.2.2.2 - z15.2.2) ≤ 52 * (z.2.2.2 - c0) by omega)⟩ rfl dX11_stage_130 (fun u H locs hw => ?_)
  refine W.widen (k := 2 * (z16.2.2.2 - c0)) (n := 52 * (z16.2.2.2 - c0)) (by omega) (by omega) ?_
  exact k_X11_stage_133 hC (by omega) hf hw (lv_sub hl [0, 1, 2, 4, 5] rfl)
set_option maxRecDepth 100000 in
set_option maxHeartbeats 4000000 in
theorem k_X11_stage_38 {p : Program} {l : Launch} {e : Env} {s : State} {m : MethodId} {args : Array Value} {below : List Frame} {meth : Method} {c : Code} {D : va_G} {cy : Nat → ClassId} {z0 : Nat} {ad : Nat → Nat} {X : va_W} {u : Nat × Nat} (hC : cx_C p s m args meth c cX11_stage "RhymedThen" (Cond.code yX11_stage cX11_stage 8 (some .int)) 8 (some .int)) {z : (Int32 × mm_M)} {c0 : Nat} {x1 : Int32} {x2 : Int32} {x3 : Int32} {x4 : Int32} {x5 : Int32} {x6 : Int32} {M : mm_M} (hc0 : c0 ≤ M.2.2) {q38 : Int32 → Int32 → Int32 → Int32 → Int32 → Int32 → mm_M → Option (Int32 × mm_M)} (hq38 : ∀ (x1 : Int32) (x2 : Int32) (x3 : Int32) (x4 : Int32) (x5 : Int32) (x6 : Int32) (M : mm_M) (u : Nat × Nat) (H : Heap) (locs : List Loc) (ls : Array Slot), c0 ≤ M.2.2 → q38 x1 x2 x3 x4 x5 x6 M = some z → wd_in cx_T D cy z0 ad u M X s H locs → lv_has ls 8 [(0, .ref (ad 0)), (1, .int x1), (2, .int x2), (3, .int x3), (4, .int x4), (5, .int x5), (6, .int x6)] → W p l e { frames := 7, cells := 2 * (z.2.2.2 - c0), slots := 52 * (z.2.2.2 - c0), locals := 215 } s m args below meth c H locs (2 * (M.2.2 - c0)) (52 * (M.2.2 - c0)) (MQ below (aq_i cx_T D cy z0 ad X z.1 z.2) args s (2 * (z.2.2.2 - c0)) (52 * (z.2.2.2 - c0)) (fun q => z0 ≤ q)) (F0 m 38 ls [])) (hm38 : ∀ (x1 : Int32) (x2 : Int32) (x3 : Int32) (x4 : Int32) (x5 : Int32) (x6 : Int32) (M : mm_M), q38 x1 x2 x3 x4 x5 x6 M = some z → M.2.2 ≤ z.2.2.2) (hf : f_X11_stage_38 q38 x1 x2 x3 x4 x5 x6 M = some z) {H : Heap} {locs : List Loc} (hw : wd_in cx_T D cy z0 ad u M X s H locs) {ls : Array Slot} (hl : lv_has ls 8 [(0, .ref (ad 0)), (1, .int x1), (2, .int x2), (3, .int x3), (4, .int x4), (5, .int x5), (6, .int x6)]) : W p l e { frames := 7, cells := 2 * (z.2.2.2 - c0), slots := 52 * (z.2.2.2 - c0), locals := 215 } s m args below meth c H locs (2 * (M.2.2 - c0)) (52 * (M.2.2 - c0)) (MQ below (aq_i cx_T D cy z0 ad X z.1 z.2) args s (2 * (z.2.2.2 - c0)) (52 * (z.2.2.2 - c0)) (fun q => z0 ≤ q)) (F0 m 38 ls []) := by
  have hx := hC.1
  have hb := hC.2.1
  have hmz : M.2.2 ≤ z.2.2.2 := mo_X11_stage_38 hm38 hf
  unfold f_X11_stage_38 at hf
  refine lv_iload hx hb dX11_stage_38 (lv_at hl 6 rfl) ?_
  refine lv_aload_n hx hb dX11_stage_40 rfl (lv_at hl 0 rfl) ?_
  refine rg_p hC hw 0 (Nat.le_of_ble_eq_true rfl) rfl fd_X11_4 wf_X11_44 (q := 19) rfl dX11_stage_41 ?_
  refine rg_i hC hw 19 (Nat.le_of_ble_eq_true rfl) rfl fd_X6_3 wf_X11_251 dX11_stage_44 ?_
  refine lv_icmp_ge (tgt := 108) hx hb dX11_stage_47 (by decide) (fun c8 => ?_) (fun c8 => ?_)
  · rw [if_pos c8] at hf
    refine W.widen (k := 2 * (M.2.2 - c0)) (n := 52 * (M.2.2 - c0)) (by omega) (by omega) ?_
    exact k_X11_stage_108 hC (by omega) hf hw (lv_sub hl [0, 1, 2, 3, 4, 5] rfl)
  · rw [if_neg c8] at hf
    refine lv_aload_n hx hb dX11_stage_50 rfl (lv_at hl 0 rfl) ?_
    refine rg_p hC hw 0 (Nat.le_of_ble_eq_true rfl) rfl fd_X11_4 wf_X11_44 (q := 19) rfl dX11_stage_51 ?_
    refine lv_iload hx hb dX11_stage_54 (lv_at hl 6 rfl) ?_
    obtain ⟨z9, ez9, hf⟩ := bd_e hf
    refine clc_Vi hC hw (c_X6_isStaged ez9) hd_X6_isStaged cw_X11_383 (Nat.le_of_ble_eq_true rfl) rfl rfl (rest := []) hl.1 rfl (Nat.le_of_ble_eq_true rfl) ⟨Nat.le_of_ble_eq_true rfl, Nat.le_of_ble_eq_true rfl⟩ ⟨(show 2 * (M.2.2 - c0) ≤ 2 * (z.2.2.2 - c0) by omega), (show 52 * (M.2.2 - c0) ≤ 52 * (z.2.2.2 - c0) by omega)⟩ rfl dX11_stage_56 (fun H locs hw => ?_)
    refine lv_if_eq (tgt := 102) hx hb dX11_stage_59 (by decide) (fun c10 => ?_) (fun c10 => ?_)
    · rw [if_pos c10] at hf
      refine W.widen (k := 2 * (M.2.2 - c0)) (n := 52 * (M.2.2 - c0)) (by omega) (by omega) ?_
      exact k_X11_stage_102 hC (by omega) hq38 hm38 hf hw (lv_sub hl [0, 1, 2, 3, 4, 5, 6] rfl)
    · rw [if_neg c10] at hf
      refine lv_aload_n hx hb dX11_stage_62 rfl (lv_at hl 0 rfl) ?_
      refine rg_p hC hw 0 (Nat.le_of_ble_eq_true rfl) rfl fd_X11_7 wf_X11_65 (q := 42) rfl dX11_stage_63 ?_
      refine lv_aload_n hx hb dX11_stage_66 rfl (lv_at hl 0 rfl) ?_
      refine rg_p hC hw 0 (Nat.le_of_ble_eq_true rfl) rfl fd_X11_4 wf_X11_44 (q := 19) rfl dX11_stage_67 ?_
      refine rg_p hC hw 19 (Nat.le_of_ble_eq_true rfl) rfl fd_X6_2 wf_X11_260 (q := 20) rfl dX11_stage_70 ?_
      refine lv_iload hx hb dX11_stage_73 (lv_at hl 6 rfl) ?_
      obtain ⟨h11, hf⟩ := ck_e hf
      refine ra_S hC hw 20 (Nat.le_of_ble_eq_true rfl) rfl h11 dX11_stage_75 ?_
      refine rg_i hC hw (22 + x6.toNatClampNeg) (sg_lt (sg_ix h11)) (sg_kd (sg_ix h11)) fd_X5_1 wf_X11_373 dX11_stage_76 ?_
      obtain ⟨z12, ez12, hf⟩ := sq_e hf
      have mz12 : M.2.2 ≤ z12.2.2 := mo_X7_invite ez12.symm
      refine clc_Vv hC hw (c_X7_invite ez12.symm) hd_X7_invite cw_X11_386 (Nat.le_of_ble_eq_true rfl) rfl rfl (rest := []) hl.1 rfl (Nat.le_of_ble_eq_true rfl) ⟨Nat.le_of_ble_eq_true rfl, Nat.le_of_ble_eq_true rfl⟩ ⟨(show 2 * (M.2.2 - c0) ≤ 2 * (z.2.2.2 - c0) by omega), (show 52 * (M.2.2 - c0) ≤ 52 * (z.2.2.2 - c0) by omega)⟩ rfl dX11_stage_79 (fun H locs hw => ?_)
      refine lv_aload_n hx hb dX11_stage_82 rfl (lv_at hl 0 rfl) ?_
      refine rg_p hC hw 0 (Nat.le_of_ble_eq_true rfl) rfl fd_X11_7 wf_X11_65 (q := 42) rfl dX11_stage_83 ?_
      refine lv_aload_n hx hb dX11_stage_86 rfl (lv_at hl 0 rfl) ?_
      refine rg_p hC hw 0 (Nat.le_of_ble_eq_true rfl) rfl fd_X11_4 wf_X11_44 (q := 19) rfl dX11_stage_87 ?_
      refine rg_p hC hw 19 (Nat.le_of_ble_eq_true rfl) rfl fd_X6_2 wf_X11_260 (q := 20) rfl dX11_stage_90 ?_
      refine lv_iload hx hb dX11_stage_93 (lv_at hl 6 rfl) ?_
      obtain ⟨h13, hf⟩ := ck_e hf
      refine ra_S hC hw 20 (Nat.le_of_ble_eq_true rfl) rfl h13 dX11_stage_95 ?_
      refine rg_i hC hw (22 + x6.toNatClampNeg) (sg_lt (sg_ix h13)) (sg_kd (sg_ix h13)) fd_X5_2 wf_X11_376 dX11_stage_96 ?_
      obtain ⟨z14, ez14, hf⟩ := sq_e hf
      have mz14 : z12.2.2 ≤ z14.2.2 := mo_X7_invite ez14.symm
      refine clc_Vv hC hw (c_X7_invite ez14.symm) hd_X7_invite cw_X11_386 (Nat.le_of_ble_eq_true rfl) rfl rfl (rest := []) hl.1 rfl (Nat.le_of_ble_eq_true rfl) ⟨Nat.le_of_ble_eq_true rfl, Nat.le_of_ble_eq_true rfl⟩ ⟨(show 2 * (M.2.2 - c0) ≤ 2 * (z.2.2.2 - c0) by omega), (show 52 * (M.2.2 - c0) ≤ 52 * (z.2.2.2 - c0) by omega)⟩ rfl dX11_stage_99 (fun H locs hw => ?_)
      refine W.widen (k := 2 * (z14.2.2 - c0)) (n := 52 * (z14.2.2 - c0)) (by omega) (by omega) ?_
      exact k_X11_stage_102 hC (by omega) hq38 hm38 hf hw (lv_sub hl [0, 1, 2, 3, 4, 5, 6] rfl)
set_option maxRecDepth 100000 in
set_option maxHeartbeats 4000000 in
theorem k_X11_stage_38l {p : Program} {l : Launch} {e : Env} {s : State} {m : MethodId} {args : Array Value} {below : List Frame} {meth : Method} {c : Code} {D : va_G} {cy : Nat → ClassId} {z0 : Nat} {ad : Nat → Nat} {X : va_W} (hC : cx_C p s m args meth c cX11_stage "RhymedThen" (Cond.code yX11_stage cX11_stage 8 (some .int)) 8 (some .int)) {z : (Int32 × mm_M)} {c0 : Nat} : ∀ (n : Nat) (x1 : Int32) (x2 : Int32) (x3 : Int32) (x4 : Int32) (x5 : Int32) (x6 : Int32) (M : mm_M) (u : Nat × Nat) (H : Heap) (locs : List Loc) (ls : Array Slot), c0 ≤ M.2.2 → f_X11_stage_38l n x1 x2 x3 x4 x5 x6 M = some z → wd_in cx_T D cy z0 ad u M X s H locs → lv_has ls 8 [(0, .ref (ad 0)), (1, .int x1), (2, .int x2), (3, .int x3), (4, .int x4), (5, .int x5), (6, .int x6)] → W p l e { frames := 7, cells := 2 * (z.2.2.2 - c0), slots := 52 * (z.2.2.2 - c0), locals := 215 } s m args below meth c H locs (2 * (M.2.2 - c0)) (52 * (M.2.2 - c0)) (MQ below (aq_i cx_T D cy z0 ad X z.1 z.2) args s (2 * (z.2.2.2 - c0)) (52 * (z.2.2.2 - c0)) (fun q => z0 ≤ q)) (F0 m 38 ls []) := by
  intro n
  induction n with
  | zero => intro x1 x2 x3 x4 x5 x6 M u H locs ls hc0 hf; exact absurd hf (by simp [f_X11_stage_38l])
  | succ n ih => intro x1 x2 x3 x4 x5 x6 M u H locs ls hc0 hf hw hl; exact k_X11_stage_38 hC hc0 ih (mo_X11_stage_38l n) hf hw hl
set_option maxRecDepth 100000 in
set_option maxHeartbeats 4000000 in
theorem k_X11_stage {p : Program} {l : Launch} {e : Env} {s : State} {m : MethodId} {args : Array Value} {below : List Frame} {meth : Method} {c : Code} {D : va_G} {cy : Nat → ClassId} {z0 : Nat} {ad : Nat → Nat} {X : va_W} {u : Nat × Nat} (hC : cx_C p s m args meth c cX11_stage "RhymedThen" (Cond.code yX11_stage cX11_stage 8 (some .int)) 8 (some .int)) {z : (Int32 × mm_M)} {c0 : Nat} {x1 : Int32} {x2 : Int32} {x3 : Int32} {x4 : Int32} {x5 : Int32} {M : mm_M} (hc0 : c0 ≤ M.2.2) (hf : f_X11_stage x1 x2 x3 x4 x5 M = some z) {H : Heap} {locs : List Loc} (hw : wd_in cx_T D cy z0 ad u M X s H locs) {ls : Array Slot} (hl : lv_has ls 8 [(0, .ref (ad 0)), (1, .int x1), (2, .int x2), (3, .int x3), (4, .int x4), (5, .int x5)]) : W p l e { frames := 7, cells := 2 * (z.2.2.2 - c0), slots := 52 * (z.2.2.2 - c0), locals := 215 } s m args below meth c H locs (2 * (M.2.2 - c0)) (52 * (M.2.2 - c0)) (MQ below (aq_i cx_T D cy z0 ad X z.1 z.2) args s (2 * (z.2.2.2 - c0)) (52 * (z.2.2.2 - c0)) (fun q => z0 ≤ q)) (F0 m 0 ls []) := by
  have hx := hC.1
  have hb := hC.2.1
  have hmz : M.2.2 ≤ z.2.2.2 := mo_X11_stage hf
  unfold f_X11_stage at hf
  refine lv_aload_n hx hb dX11_stage_0 rfl (lv_at hl 0 rfl) ?_
  refine lv_iload_n hx hb dX11_stage_1 rfl (lv_at hl 1 rfl) ?_
  refine lv_iload_n hx hb dX11_stage_2 rfl (lv_at hl 3 rfl) ?_
  refine lv_iload_n hx hb dX11_stage_3 rfl (lv_at hl 2 rfl) ?_
  obtain ⟨z1, ez1, hf⟩ := sq_e hf
  refine clc_Vi hC hw (c_X11_isThenAndThere ez1.symm) hd_X11_isThenAndThere cw_X11_188 (Nat.le_of_ble_eq_true rfl) rfl rfl (rest := []) hl.1 rfl (Nat.le_of_ble_eq_true rfl) ⟨Nat.le_of_ble_eq_true rfl, Nat.le_of_ble_eq_true rfl⟩ ⟨(show 2 * (M.2.2 - c0) ≤ 2 * (z.2.2.2 - c0) by omega), (show 52 * (M.2.2 - c0) ≤ 52 * (z.2.2.2 - c0) by omega)⟩ rfl dX11_stage_4 (fun H locs hw => ?_)
  refine lv_if_eq (tgt := 26) hx hb dX11_stage_7 (by decide) (fun c2 => ?_) (fun c2 => ?_)
  · rw [if_pos c2] at hf
    refine lv_iconst (v := (-1)) hx hb dX11_stage_26 (by decide) ?_
    refine W.widen (k := 2 * (z.2.2.2 - c0)) (n := 52 * (z.2.2.2 - c0)) (by omega) (by omega) ?_
    have hz := Option.some.inj hf
    subst hz
    exact rta_i hC hw dX11_stage_27
  · rw [if_neg c2] at hf
    refine lv_iload hx hb dX11_stage_10 (lv_at hl 4 rfl) ?_
    obtain ⟨z3, ez3, hf⟩ := sq_e hf
    refine clc_Si hC hw (c_X11_isYear ez3.symm) hd_X11_isYear cw_X11_257 (rest := []) hl.1 rfl (Nat.le_of_ble_eq_true rfl) ⟨Nat.le_of_ble_eq_true rfl, Nat.le_of_ble_eq_true rfl⟩ ⟨(show 2 * (M.2.2 - c0) ≤ 2 * (z.2.2.2 - c0) by omega), (show 52 * (M.2.2 - c0) ≤ 52 * (z.2.2.2 - c0) by omega)⟩ rfl dX11_stage_12 (fun H locs hw => ?_)
    refine lv_if_eq (tgt := 26) hx hb dX11_stage_15 (by decide) (fun c4 => ?_) (fun c4 => ?_)
    · rw [if_pos c4] at hf
      refine lv_iconst (v := (-1)) hx hb dX11_stage_26 (by decide) ?_
      refine W.widen (k := 2 * (z.2.2.2 - c0)) (n := 52 * (z.2.2.2 - c0)) (by omega) (by omega) ?_
      have hz := Option.some.inj hf
      subst hz
      exact rta_i hC hw dX11_stage_27
    · rw [if_neg c4] at hf
      refine lv_iload hx hb dX11_stage_18 (lv_at hl 5 rfl) ?_
      obtain ⟨z5, ez5, hf⟩ := sq_e hf
      refine clc_Si hC hw (c_X11_isYear ez5.symm) hd_X11_isYear cw_X11_257 (rest := []) hl.1 rfl (Nat.le_of_ble_eq_true rfl) ⟨Nat.le_of_ble_eq_true rfl, Nat.le_of_ble_eq_true rfl⟩ ⟨(show 2 * (M.2.2 - c0) ≤ 2 * (z.2.2.2 - c0) by omega), (show 52 * (M.2.2 - c0) ≤ 52 * (z.2.2.2 - c0) by omega)⟩ rfl dX11_stage_20 (fun H locs hw => ?_)
      refine lv_if_ne (tgt := 28) hx hb dX11_stage_23 (by decide) (fun c6 => ?_) (fun c6 => ?_)
      · rw [if_neg c6] at hf
        refine lv_aload_n hx hb dX11_stage_28 rfl (lv_at hl 0 rfl) ?_
        refine rg_p hC hw 0 (Nat.le_of_ble_eq_true rfl) rfl fd_X11_7 wf_X11_65 (q := 42) rfl dX11_stage_29 ?_
        obtain ⟨z7, ez7, hf⟩ := sq_e hf
        have mz7 : M.2.2 ≤ z7.2.2 := mo_X7_clear ez7.symm
        refine clc_Vv hC hw (c_X7_clear ez7.symm) hd_X7_clear cw_X11_382 (Nat.le_of_ble_eq_true rfl) rfl rfl (rest := []) hl.1 rfl (Nat.le_of_ble_eq_true rfl) ⟨Nat.le_of_ble_eq_true rfl, Nat.le_of_ble_eq_true rfl⟩ ⟨(show 2 * (M.2.2 - c0) ≤ 2 * (z.2.2.2 - c0) by omega), (show 52 * (M.2.2 - c0) ≤ 52 * (z.2.2.2 - c0) by omega)⟩ rfl dX11_stage_32 (fun H locs hw => ?_)
        refine lv_iconst (v := 0) hx hb dX11_stage_35 (by decide) ?_
        refine lv_istore (lv' := [(6, .int 0), (0, .ref (ad 0)), (1, .int x1), (2, .int x2), (3, .int x3), (4, .int x4), (5, .int x5)]) hx hb dX11_stage_36 hl (by decide) rfl (fun ls hl => ?_)
        refine W.widen (k := 2 * (z7.2.2 - c0)) (n := 52 * (z7.2.2 - c0)) (by omega) (by omega) ?_
        exact k_X11_stage_38l hC fu_ _ _ _ _ _ _ _ _ _ _ _ (by omega) hf hw (lv_sub hl [1, 2, 3, 4, 5, 6, 0] rfl)
      · rw [if_pos c6] at hf
        refine lv_iconst (v := (-1)) hx hb dX11_stage_26 (by decide) ?_
        refine W.widen (k := 2 * (z.2.2.2 - c0)) (n := 52 * (z.2.2.2 - c0)) (by omega) (by omega) ?_
        have hz := Option.some.inj hf
        subst hz
        exact rta_i hC hw dX11_stage_27
set_option maxRecDepth 100000 in
theorem c_X11_stage {l : Launch} {D : va_G} {cy : Nat → ClassId} {z0 : Nat} {ad : Nat → Nat} {u : Nat × Nat} {X : va_W} {z : (Int32 × mm_M)} {x1 : Int32} {x2 : Int32} {x3 : Int32} {x4 : Int32} {x5 : Int32} {M : mm_M} (hf : f_X11_stage x1 x2 x3 x4 x5 M = some z) : ca_i cx_T l yX11_stage (Cond.code yX11_stage cX11_stage 8 (some .int)) 7 215 D cy z0 ad u M X [.ref (ad 0), .int x1, .int x2, .int x3, .int x4, .int x5] z.1 z.2 := by
  refine bga_i (by decide) (fun p e s m below meth c hC hw => ?_)
  refine en_t (Nat.le_of_ble_eq_true rfl) (fun ls hl => ?_)
  have hl : lv_has ls 8 [(0, .ref (ad 0)), (1, .int x1), (2, .int x2), (3, .int x3), (4, .int x4), (5, .int x5)] := hl
  refine W.widen (k := 2 * (M.2.2 - M.2.2)) (n := 52 * (M.2.2 - M.2.2)) (by omega) (by omega) ?_
  exact k_X11_stage hC (Nat.le_refl _) hf hw hl
set_option maxRecDepth 100000 in
set_option maxHeartbeats 4000000 in
theorem k_X11_might_122 {p : Program} {l : Launch} {e : Env} {s : State} {m : MethodId} {args : Array Value} {below : List Frame} {meth : Method} {c : Code} {D : va_G} {cy : Nat → ClassId} {z0 : Nat} {ad : Nat → Nat} {X : va_W} {u : Nat × Nat} (hC : cx_C p s m args meth c cX11_might "RhymedThen" (Cond.code yX11_might cX11_might 10 (some .int)) 10 (some .int)) {z : (Int32 × mm_M)} {c0 : Nat} {x4 : Int32} {x5 : Int32} {x7 : Int32} {x8 : Int32} {x9 : Int32} {M : mm_M} (hc0 : c0 ≤ M.2.2) {q58 : Int32 → Int32 → Int32 → Int32 → Int32 → mm_M → Option (Int32 × mm_M)} (hq58 : ∀ (x4 : Int32) (x5 : Int32) (x7 : Int32) (x8 : Int32) (x9 : Int32) (M : mm_M) (u : Nat × Nat) (H : Heap) (locs : List Loc) (ls : Array Slot), c0 ≤ M.2.2 → q58 x4 x5 x7 x8 x9 M = some z → wd_in cx_T D cy z0 ad u M X s H locs → lv_has ls 10 [(0, .ref (ad 0)), (4, .int x4), (5, .int x5), (7, .int x7), (8, .int x8), (9, .int x9)] → W p l e { frames := 8, cells := 2 * (z.2.2.2 - c0), slots := 52 * (z.2.2.2 - c0), locals := 238 } s m args below meth c H locs (2 * (M.2.2 - c0)) (52 * (M.2.2 - c0)) (MQ below (aq_i cx_T D cy z0 ad X z.1 z.2) args s (2 * (z.2.2.2 - c0)) (52 * (z.2.2.2 - c0)) (fun q => z0 ≤ q)) (F0 m 58 ls [])) (hm58 : ∀ (x4 : Int32) (x5 : Int32) (x7 : Int32) (x8 : Int32) (x9 : Int32) (M : mm_M), q58 x4 x5 x7 x8 x9 M = some z → M.2.2 ≤ z.2.2.2) (hf : f_X11_might_122 q58 x4 x5 x7 x8 x9 M = some z) {H : Heap} {locs : List Loc} (hw : wd_in cx_T D cy z0 ad u M X s H locs) {ls : Array Slot} (hl : lv_has ls 10 [(0, .ref (ad 0)), (4, .int x4), (5, .int x5), (7, .int x7), (8, .int x8), (9, .int x9)]) : W p l e { frames := 8, cells := 2 * (z.2.2.2 - c0), slots := 52 * (z.2.2.2 - c0), locals := 238 } s m args below meth c H locs (2 * (M.2.2 - c0)) (52 * (M.2.2 - c0)) (MQ below (aq_i cx_T D cy z0 ad X z.1 z.2) args s (2 * (z.2.2.2 - c0)) (52 * (z.2.2.2 - c0)) (fun q => z0 ≤ q)) (F0 m 122 ls []) := by
  have hx := hC.1
  have hb := hC.2.1
  have hmz : M.2.2 ≤ z.2.2.2 := mo_X11_might_122 hm58 hf
  unfold f_X11_might_122 at hf
  obtain ⟨y17, ey17, hf⟩ := sq_e hf
  refine lv_iinc (v := y17) (lv' := [(9, .int y17), (0, .ref (ad 0)), (4, .int x4), (5, .int x5), (7, .int x7), (8, .int x8)]) hx hb dX11_might_122 hl (k := 5) rfl (by rw [ey17]; rfl) (by decide) rfl (fun ls hl => ?_)
  refine lv_goto (tgt := 58) hx hb dX11_might_125 (by decide) ?_
  refine W.widen (k := 2 * (M.2.2 - c0)) (n := 52 * (M.2.2 - c0)) (by omega) (by omega) ?_
  exact hq58 _ _ _ _ _ _ _ _ _ _ (by omega) hf hw (lv_sub hl [1, 2, 3, 4, 5, 0] rfl)
set_option maxRecDepth 100000 in
set_option maxHeartbeats 4000000 in
theorem k_X11_might_119 {p : Program} {l : Launch} {e : Env} {s : State} {m : MethodId} {args : Array Value} {below : List Frame} {meth : Method} {c : Code} {D : va_G} {cy : Nat → ClassId} {z0 : Nat} {ad : Nat → Nat} {X : va_W} {u : Nat × Nat} (hC : cx_C p s m args meth c cX11_might "RhymedThen" (Cond.code yX11_might cX11_might 10 (some .int)) 10 (some .int)) {z : (Int32 × mm_M)} {c0 : Nat} {x4 : Int32} {x5 : Int32} {x7 : Int32} {x9 : Int32} {t0 : Int32} {t1 : Int32} {M : mm_M} (hc0 : c0 ≤ M.2.2) {q58 : Int32 → Int32 → Int32 → Int32 → Int32 → mm_M → Option (Int32 × mm_M)} (hq58 : ∀ (x4 : Int32) (x5 : Int32) (x7 : Int32) (x8 : Int32) (x9 : Int32) (M : mm_M) (u : Nat × Nat) (H : Heap) (locs : List Loc) (ls : Array Slot), c0 ≤ M.2.2 → q58 x4 x5 x7 x8 x9 M = some z → wd_in cx_T D cy z0 ad u M X s H locs → lv_has ls 10 [(0, .ref (ad 0)), (4, .int x4), (5, .int x5), (7, .int x7), (8, .int x8), (9, .int x9)] → W p l e { frames := 8, cells := 2 * (z.2.2.2 - c0), slots := 52 * (z.2.2.2 - c0), locals := 238 } s m args below meth c H locs (2 * (M.2.2 - c0)) (52 * (M.2.2 - c0)) (MQ below (aq_i cx_T D cy z0 ad X z.1 z.2) args s (2 * (z.2.2.2 - c0)) (52 * (z.2.2.2 - c0)) (fun q => z0 ≤ q)) (F0 m 58 ls [])) (hm58 : ∀ (x4 : Int32) (x5 : Int32) (x7 : Int32) (x8 : Int32) (x9 : Int32) (M : mm_M), q58 x4 x5 x7 x8 x9 M = some z → M.2.2 ≤ z.2.2.2) (hf : f_X11_might_119 q58 x4 x5 x7 x9 t0 t1 M = some z) {H : Heap} {locs : List Loc} (hw : wd_in cx_T D cy z0 ad u M X s H locs) {ls : Array Slot} (hl : lv_has ls 10 [(0, .ref (ad 0)), (4, .int x4), (5, .int x5), (7, .int x7), (9, .int x9)]) : W p l e { frames := 8, cells := 2 * (z.2.2.2 - c0), slots := 52 * (z.2.2.2 - c0), locals := 238 } s m args below meth c H locs (2 * (M.2.2 - c0)) (52 * (M.2.2 - c0)) (MQ below (aq_i cx_T D cy z0 ad X z.1 z.2) args s (2 * (z.2.2.2 - c0)) (52 * (z.2.2.2 - c0)) (fun q => z0 ≤ q)) (F0 m 119 ls [.int t1, .int t0]) := by
  have hx := hC.1
  have hb := hC.2.1
  have hmz : M.2.2 ≤ z.2.2.2 := mo_X11_might_119 hm58 hf
  unfold f_X11_might_119 at hf
  refine lv_iadd hx hb dX11_might_119 ?_
  obtain ⟨y20, ey20, hf⟩ := sq_e hf
  refine lt_i ey20 ?_
  refine lv_istore (lv' := [(8, .int y20), (0, .ref (ad 0)), (4, .int x4), (5, .int x5), (7, .int x7), (9, .int x9)]) hx hb dX11_might_120 hl (by decide) rfl (fun ls hl => ?_)
  refine W.widen (k := 2 * (M.2.2 - c0)) (n := 52 * (M.2.2 - c0)) (by omega) (by omega) ?_
  exact k_X11_might_122 hC (by omega) hq58 hm58 hf hw (lv_sub hl [1, 2, 3, 4, 0, 5] rfl)
set_option maxRecDepth 100000 in
set_option maxHeartbeats 4000000 in
theorem k_X11_might_104 {p : Program} {l : Launch} {e : Env} {s : State} {m : MethodId} {args : Array Value} {below : List Frame} {meth : Method} {c : Code} {D : va_G} {cy : Nat → ClassId} {z0 : Nat} {ad : Nat → Nat} {X : va_W} {u : Nat × Nat} (hC : cx_C p s m args meth c cX11_might "RhymedThen" (Cond.code yX11_might cX11_might 10 (some .int)) 10 (some .int)) {z : (Int32 × mm_M)} {c0 : Nat} {x4 : Int32} {x5 : Int32} {x7 : Int32} {x9 : Int32} {t0 : Int32} {t2 : Int32} {M : mm_M} (hc0 : c0 ≤ M.2.2) {q58 : Int32 → Int32 → Int32 → Int32 → Int32 → mm_M → Option (Int32 × mm_M)} (hq58 : ∀ (x4 : Int32) (x5 : Int32) (x7 : Int32) (x8 : Int32) (x9 : Int32) (M : mm_M) (u : Nat × Nat) (H : Heap) (locs : List Loc) (ls : Array Slot), c0 ≤ M.2.2 → q58 x4 x5 x7 x8 x9 M = some z → wd_in cx_T D cy z0 ad u M X s H locs → lv_has ls 10 [(0, .ref (ad 0)), (4, .int x4), (5, .int x5), (7, .int x7), (8, .int x8), (9, .int x9)] → W p l e { frames := 8, cells := 2 * (z.2.2.2 - c0), slots := 52 * (z.2.2.2 - c0), locals := 238 } s m args below meth c H locs (2 * (M.2.2 - c0)) (52 * (M.2.2 - c0)) (MQ below (aq_i cx_T D cy z0 ad X z.1 z.2) args s (2 * (z.2.2.2 - c0)) (52 * (z.2.2.2 - c0)) (fun q => z0 ≤ q)) (F0 m 58 ls [])) (hm58 : ∀ (x4 : Int32) (x5 : Int32) (x7 : Int32) (x8 : Int32) (x9 : Int32) (M : mm_M), q58 x4 x5 x7 x8 x9 M = some z → M.2.2 ≤ z.2.2.2) (hf : f_X11_might_104 q58 x4 x5 x7 x9 t0 t2 M = some z) {H : Heap} {locs : List Loc} (hw : wd_in cx_T D cy z0 ad u M X s H locs) {ls : Array Slot} (hl : lv_has ls 10 [(0, .ref (ad 0)), (4, .int x4), (5, .int x5), (7, .int x7), (9, .int x9)]) : W p l e { frames := 8, cells := 2 * (z.2.2.2 - c0), slots := 52 * (z.2.2.2 - c0), locals := 238 } s m args below meth c H locs (2 * (M.2.2 - c0)) (52 * (M.2.2 - c0)) (MQ below (aq_i cx_T D cy z0 ad X z.1 z.2) args s (2 * (z.2.2.2 - c0)) (52 * (z.2.2.2 - c0)) (fun q => z0 ≤ q)) (F0 m 104 ls [.int t2, .ref (ad 38), .int t0]) := by
  have hx := hC.1
  have hb := hC.2.1
  have hmz : M.2.2 ≤ z.2.2.2 := mo_X11_might_104 hm58 hf
  unfold f_X11_might_104 at hf
  refine lv_aload_n hx hb dX11_might_104 rfl (lv_at hl 0 rfl) ?_
  refine rg_p hC hw 0 (Nat.le_of_ble_eq_true rfl) rfl fd_X11_2 wf_X11_26 (q := 5) rfl dX11_might_105 ?_
  obtain ⟨z18, ez18, hf⟩ := bd_e hf
  refine clc_Vi hC hw (c_X5_isSoOn (by decide) ez18) hd_X5_isSoOn cw_X11_408 (Nat.le_of_ble_eq_true rfl) rfl rfl (rest := [.int t0]) hl.1 rfl (Nat.le_of_ble_eq_true rfl) ⟨Nat.le_of_ble_eq_true rfl, Nat.le_of_ble_eq_true rfl⟩ ⟨(show 2 * (M.2.2 - c0) ≤ 2 * (z.2.2.2 - c0) by omega), (show 52 * (M.2.2 - c0) ≤ 52 * (z.2.2.2 - c0) by omega)⟩ rfl dX11_might_108 (fun H locs hw => ?_)
  refine lv_if_eq (tgt := 118) hx hb dX11_might_111 (by decide) (fun c19 => ?_) (fun c19 => ?_)
  · rw [if_pos c19] at hf
    refine lv_iconst (v := 0) hx hb dX11_might_118 (by decide) ?_
    refine W.widen (k := 2 * (M.2.2 - c0)) (n := 52 * (M.2.2 - c0)) (by omega) (by omega) ?_
    exact k_X11_might_119 hC (by omega) hq58 hm58 hf hw (lv_sub hl [0, 1, 2, 3, 4] rfl)
  · rw [if_neg c19] at hf
    refine lv_iconst (v := 1) hx hb dX11_might_114 (by decide) ?_
    refine lv_goto (tgt := 119) hx hb dX11_might_115 (by decide) ?_
    refine W.widen (k := 2 * (M.2.2 - c0)) (n := 52 * (M.2.2 - c0)) (by omega) (by omega) ?_
    exact k_X11_might_119 hC (by omega) hq58 hm58 hf hw (lv_sub hl [0, 1, 2, 3, 4] rfl)
set_option maxRecDepth 100000 in
set_option maxHeartbeats 4000000 in
theorem k_X11_might_128 {p : Program} {l : Launch} {e : Env} {s : State} {m : MethodId} {args : Array Value} {below : List Frame} {meth : Method} {c : Code} {D : va_G} {cy : Nat → ClassId} {z0 : Nat} {ad : Nat → Nat} {X : va_W} {u : Nat × Nat} (hC : cx_C p s m args meth c cX11_might "RhymedThen" (Cond.code yX11_might cX11_might 10 (some .int)) 10 (some .int)) {z : (Int32 × mm_M)} {c0 : Nat} {x7 : Int32} {x8 : Int32} {M : mm_M} (hc0 : c0 ≤ M.2.2) (hf : f_X11_might_128 x7 x8 M = some z) {H : Heap} {locs : List Loc} (hw : wd_in cx_T D cy z0 ad u M X s H locs) {ls : Array Slot} (hl : lv_has ls 10 [(0, .ref (ad 0)), (7, .int x7), (8, .int x8)]) : W p l e { frames := 8, cells := 2 * (z.2.2.2 - c0), slots := 52 * (z.2.2.2 - c0), locals := 238 } s m args below meth c H locs (2 * (M.2.2 - c0)) (52 * (M.2.2 - c0)) (MQ below (aq_i cx_T D cy z0 ad X z.1 z.2) args s (2 * (z.2.2.2 - c0)) (52 * (z.2.2.2 - c0)) (fun q => z0 ≤ q)) (F0 m 128 ls []) := by
  have hx := hC.1
  have hb := hC.2.1
  have hmz : M.2.2 ≤ z.2.2.2 := mo_X11_might_128 hf
  unfold f_X11_might_128 at hf
  refine lv_aload_n hx hb dX11_might_128 rfl (lv_at hl 0 rfl) ?_
  refine rg_p hC hw 0 (Nat.le_of_ble_eq_true rfl) rfl fd_X11_1 wf_X11_19 (q := 3) rfl dX11_might_129 ?_
  obtain ⟨z14, ez14, hf⟩ := sq_e hf
  have mz14 : M.2.2 ≤ z14.2.2 := mo_X4_clear ez14.symm
  refine clc_Vv hC hw (c_X4_clear ez14.symm) hd_X4_clear cw_X11_192 (Nat.le_of_ble_eq_true rfl) rfl rfl (rest := []) hl.1 rfl (Nat.le_of_ble_eq_true rfl) ⟨Nat.le_of_ble_eq_true rfl, Nat.le_of_ble_eq_true rfl⟩ ⟨(show 2 * (M.2.2 - c0) ≤ 2 * (z.2.2.2 - c0) by omega), (show 52 * (M.2.2 - c0) ≤ 52 * (z.2.2.2 - c0) by omega)⟩ rfl dX11_might_132 (fun H locs hw => ?_)
  refine lv_aload_n hx hb dX11_might_135 rfl (lv_at hl 0 rfl) ?_
  refine rg_p hC hw 0 (Nat.le_of_ble_eq_true rfl) rfl fd_X11_1 wf_X11_19 (q := 3) rfl dX11_might_136 ?_
  refine lv_iload hx hb dX11_might_139 (lv_at hl 2 rfl) ?_
  refine lv_i2l hx hb dX11_might_141 rfl ?_
  obtain ⟨z15, ez15, hf⟩ := bd_e hf
  have mz15 : z14.2.2 ≤ z15.2.2 := mo_X4_add ez15
  refine clc_Vv hC hw (c_X4_add ez15) hd_X4_add cw_X11_214 (Nat.le_of_ble_eq_true rfl) rfl rfl (rest := []) hl.1 rfl (Nat.le_of_ble_eq_true rfl) ⟨Nat.le_of_ble_eq_true rfl, Nat.le_of_ble_eq_true rfl⟩ ⟨(show 2 * (M.2.2 - c0) ≤ 2 * (z.2.2.2 - c0) by omega), (show 52 * (M.2.2 - c0) ≤ 52 * (z.2.2.2 - c0) by omega)⟩ rfl dX11_might_142 (fun H locs hw => ?_)
  refine lv_aload_n hx hb dX11_might_145 rfl (lv_at hl 0 rfl) ?_
  refine rg_p hC hw 0 (Nat.le_of_ble_eq_true rfl) rfl fd_X11_1 wf_X11_19 (q := 3) rfl dX11_might_146 ?_
  refine lv_iload hx hb dX11_might_149 (lv_at hl 1 rfl) ?_
  refine lv_iload hx hb dX11_might_151 (lv_at hl 2 rfl) ?_
  refine lv_isub hx hb dX11_might_153 ?_
  refine lv_i2l hx hb dX11_might_154 rfl ?_
  obtain ⟨z16, ez16, hf⟩ := bd_e hf
  have mz16 : z15.2.2 ≤ z16.2.2 := mo_X4_add ez16
  refine clc_Vv hC hw (c_X4_add ez16) hd_X4_add cw_X11_214 (Nat.le_of_ble_eq_true rfl) rfl rfl (rest := []) hl.1 rfl (Nat.le_of_ble_eq_true rfl) ⟨Nat.le_of_ble_eq_true rfl, Nat.le_of_ble_eq_true rfl⟩ ⟨(show 2 * (M.2.2 - c0) ≤ 2 * (z.2.2.2 - c0) by omega), (show 52 * (M.2.2 - c0) ≤ 52 * (z.2.2.2 - c0) by omega)⟩ rfl dX11_might_155 (fun H locs hw => ?_)
  refine lv_iload hx hb dX11_might_158 (lv_at hl 1 rfl) ?_
  refine W.widen (k := 2 * (z.2.2.2 - c0)) (n := 52 * (z.2.2.2 - c0)) (by omega) (by omega) ?_
  have hz := Option.some.inj hf
  subst hz
  exact rta_i hC hw dX11_might_160
set_option maxRecDepth 100000 in
set_option maxHeartbeats 4000000 in
theorem k_X11_might_58 {p : Program} {l : Launch} {e : Env} {s : State} {m : MethodId} {args : Array Value} {below : List Frame} {meth : Method} {c : Code} {D : va_G} {cy : Nat → ClassId} {z0 : Nat} {ad : Nat → Nat} {X : va_W} {u : Nat × Nat} (hC : cx_C p s m args meth c cX11_might "RhymedThen" (Cond.code yX11_might cX11_might 10 (some .int)) 10 (some .int)) {z : (Int32 × mm_M)} {c0 : Nat} {x4 : Int32} {x5 : Int32} {x7 : Int32} {x8 : Int32} {x9 : Int32} {M : mm_M} (hc0 : c0 ≤ M.2.2) {q58 : Int32 → Int32 → Int32 → Int32 → Int32 → mm_M → Option (Int32 × mm_M)} (hq58 : ∀ (x4 : Int32) (x5 : Int32) (x7 : Int32) (x8 : Int32) (x9 : Int32) (M : mm_M) (u : Nat × Nat) (H : Heap) (locs : List Loc) (ls : Array Slot), c0 ≤ M.2.2 → q58 x4 x5 x7 x8 x9 M = some z → wd_in cx_T D cy z0 ad u M X s H locs → lv_has ls 10 [(0, .ref (ad 0)), (4, .int x4), (5, .int x5), (7, .int x7), (8, .int x8), (9, .int x9)] → W p l e { frames := 8, cells := 2 * (z.2.2.2 - c0), slots := 52 * (z.2.2.2 - c0), locals := 238 } s m args below meth c H locs (2 * (M.2.2 - c0)) (52 * (M.2.2 - c0)) (MQ below (aq_i cx_T D cy z0 ad X z.1 z.2) args s (2 * (z.2.2.2 - c0)) (52 * (z.2.2.2 - c0)) (fun q => z0 ≤ q)) (F0 m 58 ls [])) (hm58 : ∀ (x4 : Int32) (x5 : Int32) (x7 : Int32) (x8 : Int32) (x9 : Int32) (M : mm_M), q58 x4 x5 x7 x8 x9 M = some z → M.2.2 ≤ z.2.2.2) (hf : f_X11_might_58 q58 x4 x5 x7 x8 x9 M = some z) {H : Heap} {locs : List Loc} (hw : wd_in cx_T D cy z0 ad u M X s H locs) {ls : Array Slot} (hl : lv_has ls 10 [(0, .ref (ad 0)), (4, .int x4), (5, .int x5), (7, .int x7), (8, .int x8), (9, .int x9)]) : W p l e { frames := 8, cells := 2 * (z.2.2.2 - c0), slots := 52 * (z.2.2.2 - c0), locals := 238 } s m args below meth c H locs (2 * (M.2.2 - c0)) (52 * (M.2.2 - c0)) (MQ below (aq_i cx_T D cy z0 ad X z.1 z.2) args s (2 * (z.2.2.2 - c0)) (52 * (z.2.2.2 - c0)) (fun q => z0 ≤ q)) (F0 m 58 ls []) := by
  have hx := hC.1
  have hb := hC.2.1
  have hmz : M.2.2 ≤ z.2.2.2 := mo_X11_might_58 hm58 hf
  unfold f_X11_might_58 at hf
  refine lv_iload hx hb dX11_might_58 (lv_at hl 5 rfl) ?_
  refine lv_aload_n hx hb dX11_might_60 rfl (lv_at hl 0 rfl) ?_
  refine rg_p hC hw 0 (Nat.le_of_ble_eq_true rfl) rfl fd_X11_3 wf_X11_35 (q := 14) rfl dX11_might_61 ?_
  refine rg_i hC hw 14 (Nat.le_of_ble_eq_true rfl) rfl fd_X3_2 wf_X11_144 dX11_might_64 ?_
  refine lv_icmp_ge (tgt := 128) hx hb dX11_might_67 (by decide) (fun c9 => ?_) (fun c9 => ?_)
  · rw [if_pos c9] at hf
    refine W.widen (k := 2 * (M.2.2 - c0)) (n := 52 * (M.2.2 - c0)) (by omega) (by omega) ?_
    exact k_X11_might_128 hC (by omega) hf hw (lv_sub hl [0, 3, 4] rfl)
  · rw [if_neg c9] at hf
    refine lv_aload_n hx hb dX11_might_70 rfl (lv_at hl 0 rfl) ?_
    refine rg_p hC hw 0 (Nat.le_of_ble_eq_true rfl) rfl fd_X11_4 wf_X11_44 (q := 19) rfl dX11_might_71 ?_
    refine lv_iload hx hb dX11_might_74 (lv_at hl 5 rfl) ?_
    obtain ⟨z10, ez10, hf⟩ := bd_e hf
    refine clc_Vi hC hw (c_X6_fitsTo ez10) hd_X6_fitsTo cw_X11_293 (Nat.le_of_ble_eq_true rfl) rfl rfl (rest := []) hl.1 rfl (Nat.le_of_ble_eq_true rfl) ⟨Nat.le_of_ble_eq_true rfl, Nat.le_of_ble_eq_true rfl⟩ ⟨(show 2 * (M.2.2 - c0) ≤ 2 * (z.2.2.2 - c0) by omega), (show 52 * (M.2.2 - c0) ≤ 52 * (z.2.2.2 - c0) by omega)⟩ rfl dX11_might_76 (fun H locs hw => ?_)
    refine lv_if_eq (tgt := 122) hx hb dX11_might_79 (by decide) (fun c11 => ?_) (fun c11 => ?_)
    · rw [if_pos c11] at hf
      refine W.widen (k := 2 * (M.2.2 - c0)) (n := 52 * (M.2.2 - c0)) (by omega) (by omega) ?_
      exact k_X11_might_122 hC (by omega) hq58 hm58 hf hw (lv_sub hl [0, 1, 2, 3, 4, 5] rfl)
    · rw [if_neg c11] at hf
      obtain ⟨y12, ey12, hf⟩ := sq_e hf
      refine lv_iinc (v := y12) (lv' := [(7, .int y12), (0, .ref (ad 0)), (4, .int x4), (5, .int x5), (8, .int x8), (9, .int x9)]) hx hb dX11_might_82 hl (k := 3) rfl (by rw [ey12]; rfl) (by decide) rfl (fun ls hl => ?_)
      refine lv_iload hx hb dX11_might_85 (lv_at hl 4 rfl) ?_
      refine lv_aload_n hx hb dX11_might_87 rfl (lv_at hl 1 rfl) ?_
      refine rg_p hC hw 0 (Nat.le_of_ble_eq_true rfl) rfl fd_X11_5 wf_X11_51 (q := 38) rfl dX11_might_88 ?_
      refine lv_aload_n hx hb dX11_might_91 rfl (lv_at hl 1 rfl) ?_
      refine rg_p hC hw 0 (Nat.le_of_ble_eq_true rfl) rfl fd_X11_3 wf_X11_35 (q := 14) rfl dX11_might_92 ?_
      refine lv_iload hx hb dX11_might_95 (lv_at hl 5 rfl) ?_
      refine lv_iload hx hb dX11_might_97 (lv_at hl 2 rfl) ?_
      refine lv_iload hx hb dX11_might_99 (lv_at hl 3 rfl) ?_
      obtain ⟨z13, ez13, hf⟩ := bd_e hf
      have mz13 : M.2.2 ≤ z13.2.2.2 := mo_X3_courseAt ez13
      have hnz : z13.2.2.2 ≤ z.2.2.2 := mo_X11_might_104 hm58 hf
      refine cla_Vi hC hw (c_X3_courseAt ez13) hd_X3_courseAt cw_X11_195 (Nat.le_of_ble_eq_true rfl) rfl rfl (rest := [.ref (ad 38), .int x8]) hl.1 rfl (Nat.le_of_ble_eq_true rfl) ⟨Nat.le_of_ble_eq_true rfl, Nat.le_of_ble_eq_true rfl⟩ ⟨(show 2 * (M.2.2 - c0) + 2 * (z13.2.2.2 - M.2.2) ≤ 2 * (z.2.2.2 - c0) by omega), (show 52 * (M.2.2 - c0) + 52 * (z13.2.2.2 - M.2.2) ≤ 52 * (z.2.2.2 - c0) by omega)⟩ rfl dX11_might_101 (fun u H locs hw => ?_)
      refine W.widen (k := 2 * (z13.2.2.2 - c0)) (n := 52 * (z13.2.2.2 - c0)) (by omega) (by omega) ?_
      exact k_X11_might_104 hC (by omega) hq58 hm58 hf hw (lv_sub hl [1, 2, 3, 0, 5] rfl)
set_option maxRecDepth 100000 in
set_option maxHeartbeats 4000000 in
theorem k_X11_might_58l {p : Program} {l : Launch} {e : Env} {s : State} {m : MethodId} {args : Array Value} {below : List Frame} {meth : Method} {c : Code} {D : va_G} {cy : Nat → ClassId} {z0 : Nat} {ad : Nat → Nat} {X : va_W} (hC : cx_C p s m args meth c cX11_might "RhymedThen" (Cond.code yX11_might cX11_might 10 (some .int)) 10 (some .int)) {z : (Int32 × mm_M)} {c0 : Nat} : ∀ (n : Nat) (x4 : Int32) (x5 : Int32) (x7 : Int32) (x8 : Int32) (x9 : Int32) (M : mm_M) (u : Nat × Nat) (H : Heap) (locs : List Loc) (ls : Array Slot), c0 ≤ M.2.2 → f_X11_might_58l n x4 x5 x7 x8 x9 M = some z → wd_in cx_T D cy z0 ad u M X s H locs → lv_has ls 10 [(0, .ref (ad 0)), (4, .int x4), (5, .int x5), (7, .int x7), (8, .int x8), (9, .int x9)] → W p l e { frames := 8, cells := 2 * (z.2.2.2 - c0), slots := 52 * (z.2.2.2 - c0), locals := 238 } s m args below meth c H locs (2 * (M.2.2 - c0)) (52 * (M.2.2 - c0)) (MQ below (aq_i cx_T D cy z0 ad X z.1 z.2) args s (2 * (z.2.2.2 - c0)) (52 * (z.2.2.2 - c0)) (fun q => z0 ≤ q)) (F0 m 58 ls []) := by
  intro n
  induction n with
  | zero => intro x4 x5 x7 x8 x9 M u H locs ls hc0 hf; exact absurd hf (by simp [f_X11_might_58l])
  | succ n ih => intro x4 x5 x7 x8 x9 M u H locs ls hc0 hf hw hl; exact k_X11_might_58 hC hc0 ih (mo_X11_might_58l n) hf hw hl
set_option maxRecDepth 100000 in
set_option maxHeartbeats 4000000 in
theorem k_X11_might_37 {p : Program} {l : Launch} {e : Env} {s : State} {m : MethodId} {args : Array Value} {below : List Frame} {meth : Method} {c : Code} {D : va_G} {cy : Nat → ClassId} {z0 : Nat} {ad : Nat → Nat} {X : va_W} {u : Nat × Nat} (hC : cx_C p s m args meth c cX11_might "RhymedThen" (Cond.code yX11_might cX11_might 10 (some .int)) 10 (some .int)) {z : (Int32 × mm_M)} {c0 : Nat} {x1 : Int32} {x2 : Int32} {x3 : Int32} {x4 : Int32} {x5 : Int32} {x6 : Int32} {M : mm_M} (hc0 : c0 ≤ M.2.2) (hf : f_X11_might_37 x1 x2 x3 x4 x5 x6 M = some z) {H : Heap} {locs : List Loc} (hw : wd_in cx_T D cy z0 ad u M X s H locs) {ls : Array Slot} (hl : lv_has ls 10 [(0, .ref (ad 0)), (1, .int x1), (2, .int x2), (3, .int x3), (4, .int x4), (5, .int x5), (6, .int x6)]) : W p l e { frames := 8, cells := 2 * (z.2.2.2 - c0), slots := 52 * (z.2.2.2 - c0), locals := 238 } s m args below meth c H locs (2 * (M.2.2 - c0)) (52 * (M.2.2 - c0)) (MQ below (aq_i cx_T D cy z0 ad X z.1 z.2) args s (2 * (z.2.2.2 - c0)) (52 * (z.2.2.2 - c0)) (fun q => z0 ≤ q)) (F0 m 37 ls []) := by
  have hx := hC.1
  have hb := hC.2.1
  have hmz : M.2.2 ≤ z.2.2.2 := mo_X11_might_37 hf
  unfold f_X11_might_37 at hf
  refine lv_aload_n hx hb dX11_might_37 rfl (lv_at hl 0 rfl) ?_
  refine rg_p hC hw 0 (Nat.le_of_ble_eq_true rfl) rfl fd_X11_5 wf_X11_51 (q := 38) rfl dX11_might_38 ?_
  refine lv_iload_n hx hb dX11_might_41 rfl (lv_at hl 1 rfl) ?_
  refine lv_iload_n hx hb dX11_might_42 rfl (lv_at hl 2 rfl) ?_
  refine lv_iload_n hx hb dX11_might_43 rfl (lv_at hl 3 rfl) ?_
  refine lv_iload hx hb dX11_might_44 (lv_at hl 6 rfl) ?_
  obtain ⟨z8, ez8, hf⟩ := sq_e hf
  have mz8 : M.2.2 ≤ z8.2.2 := mo_X5_tell ez8.symm
  refine clc_Vv hC hw (c_X5_tell (by decide) ez8.symm) hd_X5_tell cw_X11_264 (Nat.le_of_ble_eq_true rfl) rfl rfl (rest := []) hl.1 rfl (Nat.le_of_ble_eq_true rfl) ⟨Nat.le_of_ble_eq_true rfl, Nat.le_of_ble_eq_true rfl⟩ ⟨(show 2 * (M.2.2 - c0) ≤ 2 * (z.2.2.2 - c0) by omega), (show 52 * (M.2.2 - c0) ≤ 52 * (z.2.2.2 - c0) by omega)⟩ rfl dX11_might_46 (fun H locs hw => ?_)
  refine lv_iconst (v := 0) hx hb dX11_might_49 (by decide) ?_
  refine lv_istore (lv' := [(7, .int 0), (0, .ref (ad 0)), (1, .int x1), (2, .int x2), (3, .int x3), (4, .int x4), (5, .int x5), (6, .int x6)]) hx hb dX11_might_50 hl (by decide) rfl (fun ls hl => ?_)
  refine lv_iconst (v := 0) hx hb dX11_might_52 (by decide) ?_
  refine lv_istore (lv' := [(8, .int 0), (7, .int 0), (0, .ref (ad 0)), (1, .int x1), (2, .int x2), (3, .int x3), (4, .int x4), (5, .int x5), (6, .int x6)]) hx hb dX11_might_53 hl (by decide) rfl (fun ls hl => ?_)
  refine lv_iconst (v := 0) hx hb dX11_might_55 (by decide) ?_
  refine lv_istore (lv' := [(9, .int 0), (8, .int 0), (7, .int 0), (0, .ref (ad 0)), (1, .int x1), (2, .int x2), (3, .int x3), (4, .int x4), (5, .int x5), (6, .int x6)]) hx hb dX11_might_56 hl (by decide) rfl (fun ls hl => ?_)
  refine W.widen (k := 2 * (z8.2.2 - c0)) (n := 52 * (z8.2.2 - c0)) (by omega) (by omega) ?_
  exact k_X11_might_58l hC fu_ _ _ _ _ _ _ _ _ _ _ (by omega) hf hw (lv_sub hl [3, 7, 8, 2, 1, 0] rfl)
set_option maxRecDepth 100000 in
set_option maxHeartbeats 4000000 in
theorem k_X11_might {p : Program} {l : Launch} {e : Env} {s : State} {m : MethodId} {args : Array Value} {below : List Frame} {meth : Method} {c : Code} {D : va_G} {cy : Nat → ClassId} {z0 : Nat} {ad : Nat → Nat} {X : va_W} {u : Nat × Nat} (hC : cx_C p s m args meth c cX11_might "RhymedThen" (Cond.code yX11_might cX11_might 10 (some .int)) 10 (some .int)) {z : (Int32 × mm_M)} {c0 : Nat} {x1 : Int32} {x2 : Int32} {x3 : Int32} {x4 : Int32} {x5 : Int32} {x6 : Int32} {M : mm_M} (hc0 : c0 ≤ M.2.2) (hf : f_X11_might x1 x2 x3 x4 x5 x6 M = some z) {H : Heap} {locs : List Loc} (hw : wd_in cx_T D cy z0 ad u M X s H locs) {ls : Array Slot} (hl : lv_has ls 10 [(0, .ref (ad 0)), (1, .int x1), (2, .int x2), (3, .int x3), (4, .int x4), (5, .int x5), (6, .int x6)]) : W p l e { frames := 8, cells := 2 * (z.2.2.2 - c0), slots := 52 * (z.2.2.2 - c0), locals := 238 } s m args below meth c H locs (2 * (M.2.2 - c0)) (52 * (M.2.2 - c0)) (MQ below (aq_i cx_T D cy z0 ad X z.1 z.2) args s (2 * (z.2.2.2 - c0)) (52 * (z.2.2.2 - c0)) (fun q => z0 ≤ q)) (F0 m 0 ls []) := by
  have hx := hC.1
  have hb := hC.2.1
  have hmz : M.2.2 ≤ z.2.2.2 := mo_X11_might hf
  unfold f_X11_might at hf
  refine lv_aload_n hx hb dX11_might_0 rfl (lv_at hl 0 rfl) ?_
  refine lv_iload_n hx hb dX11_might_1 rfl (lv_at hl 1 rfl) ?_
  refine lv_iload_n hx hb dX11_might_2 rfl (lv_at hl 2 rfl) ?_
  refine lv_iload_n hx hb dX11_might_3 rfl (lv_at hl 3 rfl) ?_
  refine lv_iload hx hb dX11_might_4 (lv_at hl 6 rfl) ?_
  obtain ⟨z1, ez1, hf⟩ := sq_e hf
  refine clc_Vi hC hw (c_X11_mayBeSign ez1.symm) hd_X11_mayBeSign cw_X11_254 (Nat.le_of_ble_eq_true rfl) rfl rfl (rest := []) hl.1 rfl (Nat.le_of_ble_eq_true rfl) ⟨Nat.le_of_ble_eq_true rfl, Nat.le_of_ble_eq_true rfl⟩ ⟨(show 2 * (M.2.2 - c0) ≤ 2 * (z.2.2.2 - c0) by omega), (show 52 * (M.2.2 - c0) ≤ 52 * (z.2.2.2 - c0) by omega)⟩ rfl dX11_might_6 (fun H locs hw => ?_)
  refine lv_if_eq (tgt := 28) hx hb dX11_might_9 (by decide) (fun c2 => ?_) (fun c2 => ?_)
  · rw [if_pos c2] at hf
    refine lv_iconst (v := (-1)) hx hb dX11_might_28 (by decide) ?_
    refine W.widen (k := 2 * (z.2.2.2 - c0)) (n := 52 * (z.2.2.2 - c0)) (by omega) (by omega) ?_
    have hz := Option.some.inj hf
    subst hz
    exact rta_i hC hw dX11_might_29
  · rw [if_neg c2] at hf
    refine lv_iload hx hb dX11_might_12 (lv_at hl 4 rfl) ?_
    obtain ⟨z3, ez3, hf⟩ := sq_e hf
    refine clc_Si hC hw (c_X11_isYear ez3.symm) hd_X11_isYear cw_X11_257 (rest := []) hl.1 rfl (Nat.le_of_ble_eq_true rfl) ⟨Nat.le_of_ble_eq_true rfl, Nat.le_of_ble_eq_true rfl⟩ ⟨(show 2 * (M.2.2 - c0) ≤ 2 * (z.2.2.2 - c0) by omega), (show 52 * (M.2.2 - c0) ≤ 52 * (z.2.2.2 - c0) by omega)⟩ rfl dX11_might_14 (fun H locs hw => ?_)
    refine lv_if_eq (tgt := 28) hx hb dX11_might_17 (by decide) (fun c4 => ?_) (fun c4 => ?_)
    · rw [if_pos c4] at hf
      refine lv_iconst (v := (-1)) hx hb dX11_might_28 (by decide) ?_
      refine W.widen (k := 2 * (z.2.2.2 - c0)) (n := 52 * (z.2.2.2 - c0)) (by omega) (by omega) ?_
      have hz := Option.some.inj hf
      subst hz
      exact rta_i hC hw dX11_might_29
    · rw [if_neg c4] at hf
      refine lv_iload hx hb dX11_might_20 (lv_at hl 5 rfl) ?_
      obtain ⟨z5, ez5, hf⟩ := sq_e hf
      refine clc_Si hC hw (c_X11_isPlace ez5.symm) hd_X11_isPlace cw_X11_163 (rest := []) hl.1 rfl (Nat.le_of_ble_eq_true rfl) ⟨Nat.le_of_ble_eq_true rfl, Nat.le_of_ble_eq_true rfl⟩ ⟨(show 2 * (M.2.2 - c0) ≤ 2 * (z.2.2.2 - c0) by omega), (show 52 * (M.2.2 - c0) ≤ 52 * (z.2.2.2 - c0) by omega)⟩ rfl dX11_might_22 (fun H locs hw => ?_)
      refine lv_if_ne (tgt := 30) hx hb dX11_might_25 (by decide) (fun c6 => ?_) (fun c6 => ?_)
      · rw [if_neg c6] at hf
        refine lv_aload_n hx hb dX11_might_30 rfl (lv_at hl 0 rfl) ?_
        refine rg_p hC hw 0 (Nat.le_of_ble_eq_true rfl) rfl fd_X11_4 wf_X11_44 (q := 19) rfl dX11_might_31 ?_
        obtain ⟨z7, ez7, hf⟩ := bd_e hf
        have mz7 : M.2.2 ≤ z7.2.2 := mo_X6_lookAnew ez7
        have hnz : z7.2.2 ≤ z.2.2.2 := mo_X11_might_37 hf
        refine cla_Vv hC hw (c_X6_lookAnew ez7) hd_X6_lookAnew cw_X11_286 (Nat.le_of_ble_eq_true rfl) rfl rfl (rest := []) hl.1 rfl (Nat.le_of_ble_eq_true rfl) ⟨Nat.le_of_ble_eq_true rfl, Nat.le_of_ble_eq_true rfl⟩ ⟨(show 2 * (M.2.2 - c0) + 2 * (z7.2.2 - M.2.2) ≤ 2 * (z.2.2.2 - c0) by omega), (show 52 * (M.2.2 - c0) + 52 * (z7.2.2 - M.2.2) ≤ 52 * (z.2.2.2 - c0) by omega)⟩ rfl dX11_might_34 (fun u H locs hw => ?_)
        refine W.widen (k := 2 * (z7.2.2 - c0)) (n := 52 * (z7.2.2 - c0)) (by omega) (by omega) ?_
        exact k_X11_might_37 hC (by omega) hf hw (lv_sub hl [0, 1, 2, 3, 4, 5, 6] rfl)
      · rw [if_pos c6] at hf
        refine lv_iconst (v := (-1)) hx hb dX11_might_28 (by decide) ?_
        refine W.widen (k := 2 * (z.2.2.2 - c0)) (n := 52 * (z.2.2.2 - c0)) (by omega) (by omega) ?_
        have hz := Option.some.inj hf
        subst hz
        exact rta_i hC hw dX11_might_29
set_option maxRecDepth 100000 in
theorem c_X11_might {l : Launch} {D : va_G} {cy : Nat → ClassId} {z0 : Nat} {ad : Nat → Nat} {u : Nat × Nat} {X : va_W} {z : (Int32 × mm_M)} {x1 : Int32} {x2 : Int32} {x3 : Int32} {x4 : Int32} {x5 : Int32} {x6 : Int32} {M : mm_M} (hf : f_X11_might x1 x2 x3 x4 x5 x6 M = some z) : ca_i cx_T l yX11_might (Cond.code yX11_might cX11_might 10 (some .int)) 8 238 D cy z0 ad u M X [.ref (ad 0), .int x1, .int x2, .int x3, .int x4, .int x5, .int x6] z.1 z.2 := by
  refine bga_i (by decide) (fun p e s m below meth c hC hw => ?_)
  refine en_t (Nat.le_of_ble_eq_true rfl) (fun ls hl => ?_)
  have hl : lv_has ls 10 [(0, .ref (ad 0)), (1, .int x1), (2, .int x2), (3, .int x3), (4, .int x4), (5, .int x5), (6, .int x6)] := hl
  refine W.widen (k := 2 * (M.2.2 - M.2.2)) (n := 52 * (M.2.2 - M.2.2)) (by omega) (by omega) ?_
  exact k_X11_might hC (Nat.le_refl _) hf hw hl
set_option maxRecDepth 100000 in
set_option maxHeartbeats 4000000 in
theorem k_X11_countPairsOn_104 {p : Program} {l : Launch} {e : Env} {s : State} {m : MethodId} {args : Array Value} {below : List Frame} {meth : Method} {c : Code} {D : va_G} {cy : Nat → ClassId} {z0 : Nat} {ad : Nat → Nat} {X : va_W} {u : Nat × Nat} (hC : cx_C p s m args meth c cX11_countPairsOn "RhymedThen" (Cond.code yX11_countPairsOn cX11_countPairsOn 4 none) 4 none) {z : mm_M} {x2 : Int32} {x3 : Int32} {M : mm_M} {q51 : Int32 → Int32 → mm_M → Option mm_M} (hq51 : ∀ (x2 : Int32) (x3 : Int32) (M : mm_M) (H : Heap) (locs : List Loc) (ls : Array Slot), q51 x2 x3 M = some z → wd_in cx_T D cy z0 ad u M X s H locs → lv_has ls 4 [(0, .ref (ad 0)), (2, .int x2), (3, .int x3)] → W p l e { frames := 3, cells := 0, slots := 0, locals := 68 } s m args below meth c H locs 0 0 (MQ below (cq_v cx_T D cy z0 ad u X z) args s 0 0 (fun q => z0 ≤ q)) (F0 m 51 ls [])) (hf : f_X11_countPairsOn_104 q51 x2 x3 M = some z) {H : Heap} {locs : List Loc} (hw : wd_in cx_T D cy z0 ad u M X s H locs) {ls : Array Slot} (hl : lv_has ls 4 [(0, .ref (ad 0)), (2, .int x2), (3, .int x3)]) : W p l e { frames := 3, cells := 0, slots := 0, locals := 68 } s m args below meth c H locs 0 0 (MQ below (cq_v cx_T D cy z0 ad u X z) args s 0 0 (fun q => z0 ≤ q)) (F0 m 104 ls []) := by
  have hx := hC.1
  have hb := hC.2.1
  unfold f_X11_countPairsOn_104 at hf
  obtain ⟨y18, ey18, hf⟩ := sq_e hf
  refine lv_iinc (v := y18) (lv' := [(3, .int y18), (0, .ref (ad 0)), (2, .int x2)]) hx hb dX11_countPairsOn_104 hl (k := 2) rfl (by rw [ey18]; rfl) (by decide) rfl (fun ls hl => ?_)
  refine lv_goto (tgt := 51) hx hb dX11_countPairsOn_107 (by decide) ?_
  exact hq51 _ _ _ _ _ _ hf hw (lv_sub hl [1, 2, 0] rfl)
set_option maxRecDepth 100000 in
set_option maxHeartbeats 4000000 in
theorem k_X11_countPairsOn_110 {p : Program} {l : Launch} {e : Env} {s : State} {m : MethodId} {args : Array Value} {below : List Frame} {meth : Method} {c : Code} {D : va_G} {cy : Nat → ClassId} {z0 : Nat} {ad : Nat → Nat} {X : va_W} {u : Nat × Nat} (hC : cx_C p s m args meth c cX11_countPairsOn "RhymedThen" (Cond.code yX11_countPairsOn cX11_countPairsOn 4 none) 4 none) {z : mm_M} {x2 : Int32} {M : mm_M} {q36 : Int32 → mm_M → Option mm_M} (hq36 : ∀ (x2 : Int32) (M : mm_M) (H : Heap) (locs : List Loc) (ls : Array Slot), q36 x2 M = some z → wd_in cx_T D cy z0 ad u M X s H locs → lv_has ls 4 [(0, .ref (ad 0)), (2, .int x2)] → W p l e { frames := 3, cells := 0, slots := 0, locals := 68 } s m args below meth c H locs 0 0 (MQ below (cq_v cx_T D cy z0 ad u X z) args s 0 0 (fun q => z0 ≤ q)) (F0 m 36 ls [])) (hf : f_X11_countPairsOn_110 q36 x2 M = some z) {H : Heap} {locs : List Loc} (hw : wd_in cx_T D cy z0 ad u M X s H locs) {ls : Array Slot} (hl : lv_has ls 4 [(0, .ref (ad 0)), (2, .int x2)]) : W p l e { frames := 3, cells := 0, slots := 0, locals := 68 } s m args below meth c H locs 0 0 (MQ below (cq_v cx_T D cy z0 ad u X z) args s 0 0 (fun q => z0 ≤ q)) (F0 m 110 ls []) := by
  have hx := hC.1
  have hb := hC.2.1
  unfold f_X11_countPairsOn_110 at hf
  obtain ⟨y17, ey17, hf⟩ := sq_e hf
  refine lv_iinc (v := y17) (lv' := [(2, .int y17), (0, .ref (ad 0))]) hx hb dX11_countPairsOn_110 hl (k := 1) rfl (by rw [ey17]; rfl) (by decide) rfl (fun ls hl => ?_)
  refine lv_goto (tgt := 36) hx hb dX11_countPairsOn_113 (by decide) ?_
  exact hq36 _ _ _ _ _ hf hw (lv_sub hl [1, 0] rfl)
set_option maxRecDepth 100000 in
set_option maxHeartbeats 4000000 in
theorem k_X11_countPairsOn_51 {p : Program} {l : Launch} {e : Env} {s : State} {m : MethodId} {args : Array Value} {below : List Frame} {meth : Method} {c : Code} {D : va_G} {cy : Nat → ClassId} {z0 : Nat} {ad : Nat → Nat} {X : va_W} {u : Nat × Nat} (hC : cx_C p s m args meth c cX11_countPairsOn "RhymedThen" (Cond.code yX11_countPairsOn cX11_countPairsOn 4 none) 4 none) {z : mm_M} {x2 : Int32} {x3 : Int32} {M : mm_M} {q36 : Int32 → mm_M → Option mm_M} (hq36 : ∀ (x2 : Int32) (M : mm_M) (H : Heap) (locs : List Loc) (ls : Array Slot), q36 x2 M = some z → wd_in cx_T D cy z0 ad u M X s H locs → lv_has ls 4 [(0, .ref (ad 0)), (2, .int x2)] → W p l e { frames := 3, cells := 0, slots := 0, locals := 68 } s m args below meth c H locs 0 0 (MQ below (cq_v cx_T D cy z0 ad u X z) args s 0 0 (fun q => z0 ≤ q)) (F0 m 36 ls [])) {q51 : Int32 → Int32 → mm_M → Option mm_M} (hq51 : ∀ (x2 : Int32) (x3 : Int32) (M : mm_M) (H : Heap) (locs : List Loc) (ls : Array Slot), q51 x2 x3 M = some z → wd_in cx_T D cy z0 ad u M X s H locs → lv_has ls 4 [(0, .ref (ad 0)), (2, .int x2), (3, .int x3)] → W p l e { frames := 3, cells := 0, slots := 0, locals := 68 } s m args below meth c H locs 0 0 (MQ below (cq_v cx_T D cy z0 ad u X z) args s 0 0 (fun q => z0 ≤ q)) (F0 m 51 ls [])) (hf : f_X11_countPairsOn_51 q36 q51 x2 x3 M = some z) {H : Heap} {locs : List Loc} (hw : wd_in cx_T D cy z0 ad u M X s H locs) {ls : Array Slot} (hl : lv_has ls 4 [(0, .ref (ad 0)), (2, .int x2), (3, .int x3)]) : W p l e { frames := 3, cells := 0, slots := 0, locals := 68 } s m args below meth c H locs 0 0 (MQ below (cq_v cx_T D cy z0 ad u X z) args s 0 0 (fun q => z0 ≤ q)) (F0 m 51 ls []) := by
  have hx := hC.1
  have hb := hC.2.1
  unfold f_X11_countPairsOn_51 at hf
  refine lv_iload_n hx hb dX11_countPairsOn_51 rfl (lv_at hl 2 rfl) ?_
  refine lv_aload_n hx hb dX11_countPairsOn_52 rfl (lv_at hl 0 rfl) ?_
  refine rg_p hC hw 0 (Nat.le_of_ble_eq_true rfl) rfl fd_X11_2 wf_X11_26 (q := 5) rfl dX11_countPairsOn_53 ?_
  refine rg_i hC hw 5 (Nat.le_of_ble_eq_true rfl) rfl fd_X9_2 wf_X11_116 dX11_countPairsOn_56 ?_
  refine lv_icmp_ge (tgt := 110) hx hb dX11_countPairsOn_59 (by decide) (fun c8 => ?_) (fun c8 => ?_)
  · rw [if_pos c8] at hf
    exact k_X11_countPairsOn_110 hC hq36 hf hw (lv_sub hl [0, 1] rfl)
  · rw [if_neg c8] at hf
    refine lv_aload_n hx hb dX11_countPairsOn_62 rfl (lv_at hl 0 rfl) ?_
    refine rg_p hC hw 0 (Nat.le_of_ble_eq_true rfl) rfl fd_X11_11 wf_X11_83 (q := 68) rfl dX11_countPairsOn_63 ?_
    refine lv_iload_n hx hb dX11_countPairsOn_66 rfl (lv_at hl 1 rfl) ?_
    obtain ⟨h9, hf⟩ := ck_e hf
    refine ra_l hC hw 68 (Nat.le_of_ble_eq_true rfl) rfl h9 dX11_countPairsOn_67 ?_
    refine lv_lconst (v := 0) hx hb dX11_countPairsOn_68 (by decide) ?_
    refine lc_eq (tgt := 110) hx hb dX11_countPairsOn_69 dX11_countPairsOn_70 (by decide) (fun c10 => ?_) (fun c10 => ?_)
    · rw [if_pos c10] at hf
      exact k_X11_countPairsOn_110 hC hq36 hf hw (lv_sub hl [0, 1] rfl)
    · rw [if_neg c10] at hf
      refine lv_aload_n hx hb dX11_countPairsOn_73 rfl (lv_at hl 0 rfl) ?_
      refine rg_p hC hw 0 (Nat.le_of_ble_eq_true rfl) rfl fd_X11_11 wf_X11_83 (q := 68) rfl dX11_countPairsOn_74 ?_
      refine lv_iload_n hx hb dX11_countPairsOn_77 rfl (lv_at hl 1 rfl) ?_
      obtain ⟨h11, hf⟩ := ck_e hf
      refine ra_l hC hw 68 (Nat.le_of_ble_eq_true rfl) rfl h11 dX11_countPairsOn_78 ?_
      refine lv_aload_n hx hb dX11_countPairsOn_79 rfl (lv_at hl 0 rfl) ?_
      refine rg_p hC hw 0 (Nat.le_of_ble_eq_true rfl) rfl fd_X11_11 wf_X11_83 (q := 68) rfl dX11_countPairsOn_80 ?_
      refine lv_iload_n hx hb dX11_countPairsOn_83 rfl (lv_at hl 2 rfl) ?_
      obtain ⟨h12, hf⟩ := ck_e hf
      refine ra_l hC hw 68 (Nat.le_of_ble_eq_true rfl) rfl h12 dX11_countPairsOn_84 ?_
      refine lc_ne (tgt := 104) hx hb dX11_countPairsOn_85 dX11_countPairsOn_86 (by decide) (fun c13 => ?_) (fun c13 => ?_)
      · rw [if_neg c13] at hf
        exact k_X11_countPairsOn_104 hC hq51 hf hw (lv_sub hl [0, 1, 2] rfl)
      · rw [if_pos c13] at hf
        refine lv_aload_n hx hb dX11_countPairsOn_89 rfl (lv_at hl 0 rfl) ?_
        refine rg_p hC hw 0 (Nat.le_of_ble_eq_true rfl) rfl fd_X11_12 wf_X11_86 (q := 69) rfl dX11_countPairsOn_90 ?_
        refine lv_iload_n hx hb dX11_countPairsOn_93 rfl (lv_at hl 1 rfl) ?_
        refine lv_bipush (v := 20) hx hb dX11_countPairsOn_94 (by decide) ?_
        refine lv_imul hx hb dX11_countPairsOn_96 ?_
        refine lv_iload_n hx hb dX11_countPairsOn_97 rfl (lv_at hl 2 rfl) ?_
        refine lv_iadd hx hb dX11_countPairsOn_98 ?_
        refine lv_dup2_11 hx hb dX11_countPairsOn_99 rfl rfl ?_
        obtain ⟨h14, hf⟩ := ck_e hf
        refine ra_i hC hw 69 (Nat.le_of_ble_eq_true rfl) rfl h14 dX11_countPairsOn_100 ?_
        refine lv_iconst (v := 1) hx hb dX11_countPairsOn_101 (by decide) ?_
        refine lv_iadd hx hb dX11_countPairsOn_102 ?_
        obtain ⟨h15, hf⟩ := ck_e hf
        obtain ⟨M16, eM16, hf⟩ := sq_e hf
        refine rs_i hC hw 69 (Nat.le_of_ble_eq_true rfl) rfl h15 dX11_countPairsOn_103 eM16 (fun H locs hw => ?_)
        exact k_X11_countPairsOn_104 hC hq51 hf hw (lv_sub hl [0, 1, 2] rfl)
set_option maxRecDepth 100000 in
set_option maxHeartbeats 4000000 in
theorem k_X11_countPairsOn_51l {p : Program} {l : Launch} {e : Env} {s : State} {m : MethodId} {args : Array Value} {below : List Frame} {meth : Method} {c : Code} {D : va_G} {cy : Nat → ClassId} {z0 : Nat} {ad : Nat → Nat} {X : va_W} {u : Nat × Nat} (hC : cx_C p s m args meth c cX11_countPairsOn "RhymedThen" (Cond.code yX11_countPairsOn cX11_countPairsOn 4 none) 4 none) {z : mm_M} {q36 : Int32 → mm_M → Option mm_M} (hq36 : ∀ (x2 : Int32) (M : mm_M) (H : Heap) (locs : List Loc) (ls : Array Slot), q36 x2 M = some z → wd_in cx_T D cy z0 ad u M X s H locs → lv_has ls 4 [(0, .ref (ad 0)), (2, .int x2)] → W p l e { frames := 3, cells := 0, slots := 0, locals := 68 } s m args below meth c H locs 0 0 (MQ below (cq_v cx_T D cy z0 ad u X z) args s 0 0 (fun q => z0 ≤ q)) (F0 m 36 ls [])) : ∀ (n : Nat) (x2 : Int32) (x3 : Int32) (M : mm_M) (H : Heap) (locs : List Loc) (ls : Array Slot), f_X11_countPairsOn_51l q36 n x2 x3 M = some z → wd_in cx_T D cy z0 ad u M X s H locs → lv_has ls 4 [(0, .ref (ad 0)), (2, .int x2), (3, .int x3)] → W p l e { frames := 3, cells := 0, slots := 0, locals := 68 } s m args below meth c H locs 0 0 (MQ below (cq_v cx_T D cy z0 ad u X z) args s 0 0 (fun q => z0 ≤ q)) (F0 m 51 ls []) := by
  intro n
  induction n with
  | zero => intro x2 x3 M H locs ls hf; exact absurd hf (by simp [f_X11_countPairsOn_51l])
  | succ n ih => intro x2 x3 M H locs ls hf hw hl; exact k_X11_countPairsOn_51 hC hq36 ih hf hw hl
set_option maxRecDepth 100000 in
set_option maxHeartbeats 4000000 in
theorem k_X11_countPairsOn_36 {p : Program} {l : Launch} {e : Env} {s : State} {m : MethodId} {args : Array Value} {below : List Frame} {meth : Method} {c : Code} {D : va_G} {cy : Nat → ClassId} {z0 : Nat} {ad : Nat → Nat} {X : va_W} {u : Nat × Nat} (hC : cx_C p s m args meth c cX11_countPairsOn "RhymedThen" (Cond.code yX11_countPairsOn cX11_countPairsOn 4 none) 4 none) {z : mm_M} {x2 : Int32} {M : mm_M} {q36 : Int32 → mm_M → Option mm_M} (hq36 : ∀ (x2 : Int32) (M : mm_M) (H : Heap) (locs : List Loc) (ls : Array Slot), q36 x2 M = some z → wd_in cx_T D cy z0 ad u M X s H locs → lv_has ls 4 [(0, .ref (ad 0)), (2, .int x2)] → W p l e { frames := 3, cells := 0, slots := 0, locals := 68 } s m args below meth c H locs 0 0 (MQ below (cq_v cx_T D cy z0 ad u X z) args s 0 0 (fun q => z0 ≤ q)) (F0 m 36 ls [])) (hf : f_X11_countPairsOn_36 q36 x2 M = some z) {H : Heap} {locs : List Loc} (hw : wd_in cx_T D cy z0 ad u M X s H locs) {ls : Array Slot} (hl : lv_has ls 4 [(0, .ref (ad 0)), (2, .int x2)]) : W p l e { frames := 3, cells := 0, slots := 0, locals := 68 } s m args below meth c H locs 0 0 (MQ below (cq_v cx_T D cy z0 ad u X z) args s 0 0 (fun q => z0 ≤ q)) (F0 m 36 ls []) := by
  have hx := hC.1
  have hb := hC.2.1
  unfold f_X11_countPairsOn_36 at hf
  refine lv_iload_n hx hb dX11_countPairsOn_36 rfl (lv_at hl 1 rfl) ?_
  refine lv_aload_n hx hb dX11_countPairsOn_37 rfl (lv_at hl 0 rfl) ?_
  refine rg_p hC hw 0 (Nat.le_of_ble_eq_true rfl) rfl fd_X11_2 wf_X11_26 (q := 5) rfl dX11_countPairsOn_38 ?_
  refine rg_i hC hw 5 (Nat.le_of_ble_eq_true rfl) rfl fd_X9_2 wf_X11_116 dX11_countPairsOn_41 ?_
  refine lv_icmp_ge (tgt := 116) hx hb dX11_countPairsOn_44 (by decide) (fun c6 => ?_) (fun c6 => ?_)
  · rw [if_pos c6] at hf
    have hz := Option.some.inj hf
    subst hz
    exact rtc_v hC hw dX11_countPairsOn_116
  · rw [if_neg c6] at hf
    refine lv_iload_n hx hb dX11_countPairsOn_47 rfl (lv_at hl 1 rfl) ?_
    refine lv_iconst (v := 1) hx hb dX11_countPairsOn_48 (by decide) ?_
    refine lv_iadd hx hb dX11_countPairsOn_49 ?_
    obtain ⟨y7, ey7, hf⟩ := sq_e hf
    refine lt_i ey7 ?_
    refine lv_istore_n (lv' := [(3, .int y7), (0, .ref (ad 0)), (2, .int x2)]) hx hb dX11_countPairsOn_50 rfl hl (by decide) rfl (fun ls hl => ?_)
    exact k_X11_countPairsOn_51l hC hq36 fu_ _ _ _ _ _ _ hf hw (lv_sub hl [1, 2, 0] rfl)
set_option maxRecDepth 100000 in
set_option maxHeartbeats 4000000 in
theorem k_X11_countPairsOn_36l {p : Program} {l : Launch} {e : Env} {s : State} {m : MethodId} {args : Array Value} {below : List Frame} {meth : Method} {c : Code} {D : va_G} {cy : Nat → ClassId} {z0 : Nat} {ad : Nat → Nat} {X : va_W} {u : Nat × Nat} (hC : cx_C p s m args meth c cX11_countPairsOn "RhymedThen" (Cond.code yX11_countPairsOn cX11_countPairsOn 4 none) 4 none) {z : mm_M} : ∀ (n : Nat) (x2 : Int32) (M : mm_M) (H : Heap) (locs : List Loc) (ls : Array Slot), f_X11_countPairsOn_36l n x2 M = some z → wd_in cx_T D cy z0 ad u M X s H locs → lv_has ls 4 [(0, .ref (ad 0)), (2, .int x2)] → W p l e { frames := 3, cells := 0, slots := 0, locals := 68 } s m args below meth c H locs 0 0 (MQ below (cq_v cx_T D cy z0 ad u X z) args s 0 0 (fun q => z0 ≤ q)) (F0 m 36 ls []) := by
  intro n
  induction n with
  | zero => intro x2 M H locs ls hf; exact absurd hf (by simp [f_X11_countPairsOn_36l])
  | succ n ih => intro x2 M H locs ls hf hw hl; exact k_X11_countPairsOn_36 hC ih hf hw hl
set_option maxRecDepth 100000 in
set_option maxHeartbeats 4000000 in
theorem k_X11_countPairsOn_34 {p : Program} {l : Launch} {e : Env} {s : State} {m : MethodId} {args : Array Value} {below : List Frame} {meth : Method} {c : Code} {D : va_G} {cy : Nat → ClassId} {z0 : Nat} {ad : Nat → Nat} {X : va_W} {u : Nat × Nat} (hC : cx_C p s m args meth c cX11_countPairsOn "RhymedThen" (Cond.code yX11_countPairsOn cX11_countPairsOn 4 none) 4 none) {z : mm_M} {M : mm_M} (hf : f_X11_countPairsOn_34 M = some z) {H : Heap} {locs : List Loc} (hw : wd_in cx_T D cy z0 ad u M X s H locs) {ls : Array Slot} (hl : lv_has ls 4 [(0, .ref (ad 0))]) : W p l e { frames := 3, cells := 0, slots := 0, locals := 68 } s m args below meth c H locs 0 0 (MQ below (cq_v cx_T D cy z0 ad u X z) args s 0 0 (fun q => z0 ≤ q)) (F0 m 34 ls []) := by
  have hx := hC.1
  have hb := hC.2.1
  unfold f_X11_countPairsOn_34 at hf
  refine lv_iconst (v := 0) hx hb dX11_countPairsOn_34 (by decide) ?_
  refine lv_istore_n (lv' := [(2, .int 0), (0, .ref (ad 0))]) hx hb dX11_countPairsOn_35 rfl hl (by decide) rfl (fun ls hl => ?_)
  exact k_X11_countPairsOn_36l hC fu_ _ _ _ _ _ hf hw (lv_sub hl [1, 0] rfl)
set_option maxRecDepth 100000 in
set_option maxHeartbeats 4000000 in
theorem k_X11_countPairsOn_2 {p : Program} {l : Launch} {e : Env} {s : State} {m : MethodId} {args : Array Value} {below : List Frame} {meth : Method} {c : Code} {D : va_G} {cy : Nat → ClassId} {z0 : Nat} {ad : Nat → Nat} {X : va_W} {u : Nat × Nat} (hC : cx_C p s m args meth c cX11_countPairsOn "RhymedThen" (Cond.code yX11_countPairsOn cX11_countPairsOn 4 none) 4 none) {z : mm_M} {x1 : Int32} {x2 : Int32} {M : mm_M} {q2 : Int32 → Int32 → mm_M → Option mm_M} (hq2 : ∀ (x1 : Int32) (x2 : Int32) (M : mm_M) (H : Heap) (locs : List Loc) (ls : Array Slot), q2 x1 x2 M = some z → wd_in cx_T D cy z0 ad u M X s H locs → lv_has ls 4 [(0, .ref (ad 0)), (1, .int x1), (2, .int x2)] → W p l e { frames := 3, cells := 0, slots := 0, locals := 68 } s m args below meth c H locs 0 0 (MQ below (cq_v cx_T D cy z0 ad u X z) args s 0 0 (fun q => z0 ≤ q)) (F0 m 2 ls [])) (hf : f_X11_countPairsOn_2 q2 x1 x2 M = some z) {H : Heap} {locs : List Loc} (hw : wd_in cx_T D cy z0 ad u M X s H locs) {ls : Array Slot} (hl : lv_has ls 4 [(0, .ref (ad 0)), (1, .int x1), (2, .int x2)]) : W p l e { frames := 3, cells := 0, slots := 0, locals := 68 } s m args below meth c H locs 0 0 (MQ below (cq_v cx_T D cy z0 ad u X z) args s 0 0 (fun q => z0 ≤ q)) (F0 m 2 ls []) := by
  have hx := hC.1
  have hb := hC.2.1
  unfold f_X11_countPairsOn_2 at hf
  refine lv_iload_n hx hb dX11_countPairsOn_2 rfl (lv_at hl 2 rfl) ?_
  refine lv_aload_n hx hb dX11_countPairsOn_3 rfl (lv_at hl 0 rfl) ?_
  refine rg_p hC hw 0 (Nat.le_of_ble_eq_true rfl) rfl fd_X11_2 wf_X11_26 (q := 5) rfl dX11_countPairsOn_4 ?_
  refine rg_i hC hw 5 (Nat.le_of_ble_eq_true rfl) rfl fd_X9_2 wf_X11_116 dX11_countPairsOn_7 ?_
  refine lv_icmp_ge (tgt := 34) hx hb dX11_countPairsOn_10 (by decide) (fun c1 => ?_) (fun c1 => ?_)
  · rw [if_pos c1] at hf
    exact k_X11_countPairsOn_34 hC hf hw (lv_sub hl [0] rfl)
  · rw [if_neg c1] at hf
    refine lv_aload_n hx hb dX11_countPairsOn_13 rfl (lv_at hl 0 rfl) ?_
    refine rg_p hC hw 0 (Nat.le_of_ble_eq_true rfl) rfl fd_X11_11 wf_X11_83 (q := 68) rfl dX11_countPairsOn_14 ?_
    refine lv_iload_n hx hb dX11_countPairsOn_17 rfl (lv_at hl 2 rfl) ?_
    refine lv_aload_n hx hb dX11_countPairsOn_18 rfl (lv_at hl 0 rfl) ?_
    refine rg_p hC hw 0 (Nat.le_of_ble_eq_true rfl) rfl fd_X11_2 wf_X11_26 (q := 5) rfl dX11_countPairsOn_19 ?_
    refine lv_iload_n hx hb dX11_countPairsOn_22 rfl (lv_at hl 1 rfl) ?_
    refine lv_iload_n hx hb dX11_countPairsOn_23 rfl (lv_at hl 2 rfl) ?_
    obtain ⟨z2, ez2, hf⟩ := bd_e hf
    refine clc_Vl hC hw (c_X9_tailOn ez2) hd_X9_tailOn cw_X11_424 (Nat.le_of_ble_eq_true rfl) rfl rfl (rest := [.int x2, .ref (ad 68)]) hl.1 rfl (Nat.le_of_ble_eq_true rfl) ⟨Nat.le_of_ble_eq_true rfl, Nat.le_of_ble_eq_true rfl⟩ ⟨Nat.zero_le _, Nat.zero_le _⟩ rfl dX11_countPairsOn_24 (fun H locs hw => ?_)
    obtain ⟨h3, hf⟩ := ck_e hf
    obtain ⟨M4, eM4, hf⟩ := sq_e hf
    refine rs_l hC hw 68 (Nat.le_of_ble_eq_true rfl) rfl h3 dX11_countPairsOn_27 eM4 (fun H locs hw => ?_)
    obtain ⟨y5, ey5, hf⟩ := sq_e hf
    refine lv_iinc (v := y5) (lv' := [(2, .int y5), (0, .ref (ad 0)), (1, .int x1)]) hx hb dX11_countPairsOn_28 hl (k := 2) rfl (by rw [ey5]; rfl) (by decide) rfl (fun ls hl => ?_)
    refine lv_goto (tgt := 2) hx hb dX11_countPairsOn_31 (by decide) ?_
    exact hq2 _ _ _ _ _ _ hf hw (lv_sub hl [1, 2, 0] rfl)
set_option maxRecDepth 100000 in
set_option maxHeartbeats 4000000 in
theorem k_X11_countPairsOn_2l {p : Program} {l : Launch} {e : Env} {s : State} {m : MethodId} {args : Array Value} {below : List Frame} {meth : Method} {c : Code} {D : va_G} {cy : Nat → ClassId} {z0 : Nat} {ad : Nat → Nat} {X : va_W} {u : Nat × Nat} (hC : cx_C p s m args meth c cX11_countPairsOn "RhymedThen" (Cond.code yX11_countPairsOn cX11_countPairsOn 4 none) 4 none) {z : mm_M} : ∀ (n : Nat) (x1 : Int32) (x2 : Int32) (M : mm_M) (H : Heap) (locs : List Loc) (ls : Array Slot), f_X11_countPairsOn_2l n x1 x2 M = some z → wd_in cx_T D cy z0 ad u M X s H locs → lv_has ls 4 [(0, .ref (ad 0)), (1, .int x1), (2, .int x2)] → W p l e { frames := 3, cells := 0, slots := 0, locals := 68 } s m args below meth c H locs 0 0 (MQ below (cq_v cx_T D cy z0 ad u X z) args s 0 0 (fun q => z0 ≤ q)) (F0 m 2 ls []) := by
  intro n
  induction n with
  | zero => intro x1 x2 M H locs ls hf; exact absurd hf (by simp [f_X11_countPairsOn_2l])
  | succ n ih => intro x1 x2 M H locs ls hf hw hl; exact k_X11_countPairsOn_2 hC ih hf hw hl
set_option maxRecDepth 100000 in
set_option maxHeartbeats 4000000 in
theorem k_X11_countPairsOn {p : Program} {l : Launch} {e : Env} {s : State} {m : MethodId} {args : Array Value} {below : List Frame} {meth : Method} {c : Code} {D : va_G} {cy : Nat → ClassId} {z0 : Nat} {ad : Nat → Nat} {X : va_W} {u : Nat × Nat} (hC : cx_C p s m args meth c cX11_countPairsOn "RhymedThen" (Cond.code yX11_countPairsOn cX11_countPairsOn 4 none) 4 none) {z : mm_M} {x1 : Int32} {M : mm_M} (hf : f_X11_countPairsOn x1 M = some z) {H : Heap} {locs : List Loc} (hw : wd_in cx_T D cy z0 ad u M X s H locs) {ls : Array Slot} (hl : lv_has ls 4 [(0, .ref (ad 0)), (1, .int x1)]) : W p l e { frames := 3, cells := 0, slots := 0, locals := 68 } s m args below meth c H locs 0 0 (MQ below (cq_v cx_T D cy z0 ad u X z) args s 0 0 (fun q => z0 ≤ q)) (F0 m 0 ls []) := by
  have hx := hC.1
  have hb := hC.2.1
  unfold f_X11_countPairsOn at hf
  refine lv_iconst (v := 0) hx hb dX11_countPairsOn_0 (by decide) ?_
  refine lv_istore_n (lv' := [(2, .int 0), (0, .ref (ad 0)), (1, .int x1)]) hx hb dX11_countPairsOn_1 rfl hl (by decide) rfl (fun ls hl => ?_)
  exact k_X11_countPairsOn_2l hC fu_ _ _ _ _ _ _ hf hw (lv_sub hl [1, 2, 0] rfl)
set_option maxRecDepth 100000 in
theorem c_X11_countPairsOn {l : Launch} {D : va_G} {cy : Nat → ClassId} {z0 : Nat} {ad : Nat → Nat} {u : Nat × Nat} {X : va_W} {z : mm_M} {x1 : Int32} {M : mm_M} (hf : f_X11_countPairsOn x1 M = some z) : ct_v cx_T l yX11_countPairsOn (Cond.code yX11_countPairsOn cX11_countPairsOn 4 none) 3 68 D cy z0 ad u M X [.ref (ad 0), .int x1] z := by
  refine bgc_v (by decide) (fun p e s m below meth c hC hw => ?_)
  refine en_t (Nat.le_of_ble_eq_true rfl) (fun ls hl => ?_)
  have hl : lv_has ls 4 [(0, .ref (ad 0)), (1, .int x1)] := hl
  exact k_X11_countPairsOn hC hf hw hl
set_option maxRecDepth 100000 in
set_option maxHeartbeats 4000000 in
theorem k_X11_countPairs_55 {p : Program} {l : Launch} {e : Env} {s : State} {m : MethodId} {args : Array Value} {below : List Frame} {meth : Method} {c : Code} {D : va_G} {cy : Nat → ClassId} {z0 : Nat} {ad : Nat → Nat} {X : va_W} {u : Nat × Nat} (hC : cx_C p s m args meth c cX11_countPairs "RhymedThen" (Cond.code yX11_countPairs cX11_countPairs 5 (some .int)) 5 (some .int)) {z : (Int32 × mm_M)} {c0 : Nat} {x1 : Int32} {x2 : Int32} {x3 : Int32} {x4 : Int32} {M : mm_M} (hc0 : c0 ≤ M.2.2) {q13 : Int32 → Int32 → Int32 → Int32 → mm_M → Option (Int32 × mm_M)} (hq13 : ∀ (x1 : Int32) (x2 : Int32) (x3 : Int32) (x4 : Int32) (M : mm_M) (u : Nat × Nat) (H : Heap) (locs : List Loc) (ls : Array Slot), c0 ≤ M.2.2 → q13 x1 x2 x3 x4 M = some z → wd_in cx_T D cy z0 ad u M X s H locs → lv_has ls 5 [(0, .ref (ad 0)), (1, .int x1), (2, .int x2), (3, .int x3), (4, .int x4)] → W p l e { frames := 7, cells := 2 * (z.2.2.2 - c0), slots := 52 * (z.2.2.2 - c0), locals := 215 } s m args below meth c H locs (2 * (M.2.2 - c0)) (52 * (M.2.2 - c0)) (MQ below (aq_i cx_T D cy z0 ad X z.1 z.2) args s (2 * (z.2.2.2 - c0)) (52 * (z.2.2.2 - c0)) (fun q => z0 ≤ q)) (F0 m 13 ls [])) (hm13 : ∀ (x1 : Int32) (x2 : Int32) (x3 : Int32) (x4 : Int32) (M : mm_M), q13 x1 x2 x3 x4 M = some z → M.2.2 ≤ z.2.2.2) (hf : f_X11_countPairs_55 q13 x1 x2 x3 x4 M = some z) {H : Heap} {locs : List Loc} (hw : wd_in cx_T D cy z0 ad u M X s H locs) {ls : Array Slot} (hl : lv_has ls 5 [(0, .ref (ad 0)), (1, .int x1), (2, .int x2), (3, .int x3), (4, .int x4)]) : W p l e { frames := 7, cells := 2 * (z.2.2.2 - c0), slots := 52 * (z.2.2.2 - c0), locals := 215 } s m args below meth c H locs (2 * (M.2.2 - c0)) (52 * (M.2.2 - c0)) (MQ below (aq_i cx_T D cy z0 ad X z.1 z.2) args s (2 * (z.2.2.2 - c0)) (52 * (z.2.2.2 - c0)) (fun q => z0 ≤ q)) (F0 m 55 ls []) := by
  have hx := hC.1
  have hb := hC.2.1
  have hmz : M.2.2 ≤ z.2.2.2 := mo_X11_countPairs_55 hm13 hf
  unfold f_X11_countPairs_55 at hf
  obtain ⟨y7, ey7, hf⟩ := sq_e hf
  refine lv_iinc (v := y7) (lv' := [(4, .int y7), (0, .ref (ad 0)), (1, .int x1), (2, .int x2), (3, .int x3)]) hx hb dX11_countPairs_55 hl (k := 4) rfl (by rw [ey7]; rfl) (by decide) rfl (fun ls hl => ?_)
  refine lv_goto (tgt := 13) hx hb dX11_countPairs_58 (by decide) ?_
  refine W.widen (k := 2 * (M.2.2 - c0)) (n := 52 * (M.2.2 - c0)) (by omega) (by omega) ?_
  exact hq13 _ _ _ _ _ _ _ _ _ (by omega) hf hw (lv_sub hl [1, 2, 3, 4, 0] rfl)
set_option maxRecDepth 100000 in
set_option maxHeartbeats 4000000 in
theorem k_X11_countPairs_52 {p : Program} {l : Launch} {e : Env} {s : State} {m : MethodId} {args : Array Value} {below : List Frame} {meth : Method} {c : Code} {D : va_G} {cy : Nat → ClassId} {z0 : Nat} {ad : Nat → Nat} {X : va_W} {u : Nat × Nat} (hC : cx_C p s m args meth c cX11_countPairs "RhymedThen" (Cond.code yX11_countPairs cX11_countPairs 5 (some .int)) 5 (some .int)) {z : (Int32 × mm_M)} {c0 : Nat} {x1 : Int32} {x2 : Int32} {x3 : Int32} {x4 : Int32} {t1 : Int32} {M : mm_M} (hc0 : c0 ≤ M.2.2) {q13 : Int32 → Int32 → Int32 → Int32 → mm_M → Option (Int32 × mm_M)} (hq13 : ∀ (x1 : Int32) (x2 : Int32) (x3 : Int32) (x4 : Int32) (M : mm_M) (u : Nat × Nat) (H : Heap) (locs : List Loc) (ls : Array Slot), c0 ≤ M.2.2 → q13 x1 x2 x3 x4 M = some z → wd_in cx_T D cy z0 ad u M X s H locs → lv_has ls 5 [(0, .ref (ad 0)), (1, .int x1), (2, .int x2), (3, .int x3), (4, .int x4)] → W p l e { frames := 7, cells := 2 * (z.2.2.2 - c0), slots := 52 * (z.2.2.2 - c0), locals := 215 } s m args below meth c H locs (2 * (M.2.2 - c0)) (52 * (M.2.2 - c0)) (MQ below (aq_i cx_T D cy z0 ad X z.1 z.2) args s (2 * (z.2.2.2 - c0)) (52 * (z.2.2.2 - c0)) (fun q => z0 ≤ q)) (F0 m 13 ls [])) (hm13 : ∀ (x1 : Int32) (x2 : Int32) (x3 : Int32) (x4 : Int32) (M : mm_M), q13 x1 x2 x3 x4 M = some z → M.2.2 ≤ z.2.2.2) (hf : f_X11_countPairs_52 q13 x1 x2 x3 x4 t1 M = some z) {H : Heap} {locs : List Loc} (hw : wd_in cx_T D cy z0 ad u M X s H locs) {ls : Array Slot} (hl : lv_has ls 5 [(0, .ref (ad 0)), (1, .int x1), (2, .int x2), (3, .int x3), (4, .int x4)]) : W p l e { frames := 7, cells := 2 * (z.2.2.2 - c0), slots := 52 * (z.2.2.2 - c0), locals := 215 } s m args below meth c H locs (2 * (M.2.2 - c0)) (52 * (M.2.2 - c0)) (MQ below (aq_i cx_T D cy z0 ad X z.1 z.2) args s (2 * (z.2.2.2 - c0)) (52 * (z.2.2.2 - c0)) (fun q => z0 ≤ q)) (F0 m 52 ls [.int t1, .ref (ad 0)]) := by
  have hx := hC.1
  have hb := hC.2.1
  have hmz : M.2.2 ≤ z.2.2.2 := mo_X11_countPairs_52 hm13 hf
  unfold f_X11_countPairs_52 at hf
  obtain ⟨z8, ez8, hf⟩ := bd_e hf
  have mz8 : M.2.2 ≤ z8.2.2 := mo_X11_countPairsOn ez8
  refine clc_Vv hC hw (c_X11_countPairsOn ez8) hd_X11_countPairsOn cw_X11_421 (Nat.le_of_ble_eq_true rfl) rfl rfl (rest := []) hl.1 rfl (Nat.le_of_ble_eq_true rfl) ⟨Nat.le_of_ble_eq_true rfl, Nat.le_of_ble_eq_true rfl⟩ ⟨(show 2 * (M.2.2 - c0) ≤ 2 * (z.2.2.2 - c0) by omega), (show 52 * (M.2.2 - c0) ≤ 52 * (z.2.2.2 - c0) by omega)⟩ rfl dX11_countPairs_52 (fun H locs hw => ?_)
  refine W.widen (k := 2 * (z8.2.2 - c0)) (n := 52 * (z8.2.2 - c0)) (by omega) (by omega) ?_
  exact k_X11_countPairs_55 hC (by omega) hq13 hm13 hf hw (lv_sub hl [0, 1, 2, 3, 4] rfl)
set_option maxRecDepth 100000 in
set_option maxHeartbeats 4000000 in
theorem k_X11_countPairs_13 {p : Program} {l : Launch} {e : Env} {s : State} {m : MethodId} {args : Array Value} {below : List Frame} {meth : Method} {c : Code} {D : va_G} {cy : Nat → ClassId} {z0 : Nat} {ad : Nat → Nat} {X : va_W} {u : Nat × Nat} (hC : cx_C p s m args meth c cX11_countPairs "RhymedThen" (Cond.code yX11_countPairs cX11_countPairs 5 (some .int)) 5 (some .int)) {z : (Int32 × mm_M)} {c0 : Nat} {x1 : Int32} {x2 : Int32} {x3 : Int32} {x4 : Int32} {M : mm_M} (hc0 : c0 ≤ M.2.2) {q13 : Int32 → Int32 → Int32 → Int32 → mm_M → Option (Int32 × mm_M)} (hq13 : ∀ (x1 : Int32) (x2 : Int32) (x3 : Int32) (x4 : Int32) (M : mm_M) (u : Nat × Nat) (H : Heap) (locs : List Loc) (ls : Array Slot), c0 ≤ M.2.2 → q13 x1 x2 x3 x4 M = some z → wd_in cx_T D cy z0 ad u M X s H locs → lv_has ls 5 [(0, .ref (ad 0)), (1, .int x1), (2, .int x2), (3, .int x3), (4, .int x4)] → W p l e { frames := 7, cells := 2 * (z.2.2.2 - c0), slots := 52 * (z.2.2.2 - c0), locals := 215 } s m args below meth c H locs (2 * (M.2.2 - c0)) (52 * (M.2.2 - c0)) (MQ below (aq_i cx_T D cy z0 ad X z.1 z.2) args s (2 * (z.2.2.2 - c0)) (52 * (z.2.2.2 - c0)) (fun q => z0 ≤ q)) (F0 m 13 ls [])) (hm13 : ∀ (x1 : Int32) (x2 : Int32) (x3 : Int32) (x4 : Int32) (M : mm_M), q13 x1 x2 x3 x4 M = some z → M.2.2 ≤ z.2.2.2) (hf : f_X11_countPairs_13 q13 x1 x2 x3 x4 M = some z) {H : Heap} {locs : List Loc} (hw : wd_in cx_T D cy z0 ad u M X s H locs) {ls : Array Slot} (hl : lv_has ls 5 [(0, .ref (ad 0)), (1, .int x1), (2, .int x2), (3, .int x3), (4, .int x4)]) : W p l e { frames := 7, cells := 2 * (z.2.2.2 - c0), slots := 52 * (z.2.2.2 - c0), locals := 215 } s m args below meth c H locs (2 * (M.2.2 - c0)) (52 * (M.2.2 - c0)) (MQ below (aq_i cx_T D cy z0 ad X z.1 z.2) args s (2 * (z.2.2.2 - c0)) (52 * (z.2.2.2 - c0)) (fun q => z0 ≤ q)) (F0 m 13 ls []) := by
  have hx := hC.1
  have hb := hC.2.1
  have hmz : M.2.2 ≤ z.2.2.2 := mo_X11_countPairs_13 hm13 hf
  unfold f_X11_countPairs_13 at hf
  refine lv_iload hx hb dX11_countPairs_13 (lv_at hl 4 rfl) ?_
  refine lv_aload_n hx hb dX11_countPairs_15 rfl (lv_at hl 0 rfl) ?_
  refine rg_p hC hw 0 (Nat.le_of_ble_eq_true rfl) rfl fd_X11_3 wf_X11_35 (q := 14) rfl dX11_countPairs_16 ?_
  refine rg_i hC hw 14 (Nat.le_of_ble_eq_true rfl) rfl fd_X3_2 wf_X11_144 dX11_countPairs_19 ?_
  refine lv_icmp_ge (tgt := 61) hx hb dX11_countPairs_22 (by decide) (fun c2 => ?_) (fun c2 => ?_)
  · rw [if_pos c2] at hf
    refine lv_iload_n hx hb dX11_countPairs_61 rfl (lv_at hl 3 rfl) ?_
    refine W.widen (k := 2 * (z.2.2.2 - c0)) (n := 52 * (z.2.2.2 - c0)) (by omega) (by omega) ?_
    have hz := Option.some.inj hf
    subst hz
    exact rta_i hC hw dX11_countPairs_62
  · rw [if_neg c2] at hf
    refine lv_aload_n hx hb dX11_countPairs_25 rfl (lv_at hl 0 rfl) ?_
    refine rg_p hC hw 0 (Nat.le_of_ble_eq_true rfl) rfl fd_X11_4 wf_X11_44 (q := 19) rfl dX11_countPairs_26 ?_
    refine lv_iload hx hb dX11_countPairs_29 (lv_at hl 4 rfl) ?_
    obtain ⟨z3, ez3, hf⟩ := bd_e hf
    refine clc_Vi hC hw (c_X6_fitsTo ez3) hd_X6_fitsTo cw_X11_293 (Nat.le_of_ble_eq_true rfl) rfl rfl (rest := []) hl.1 rfl (Nat.le_of_ble_eq_true rfl) ⟨Nat.le_of_ble_eq_true rfl, Nat.le_of_ble_eq_true rfl⟩ ⟨(show 2 * (M.2.2 - c0) ≤ 2 * (z.2.2.2 - c0) by omega), (show 52 * (M.2.2 - c0) ≤ 52 * (z.2.2.2 - c0) by omega)⟩ rfl dX11_countPairs_31 (fun H locs hw => ?_)
    refine lv_if_eq (tgt := 55) hx hb dX11_countPairs_34 (by decide) (fun c4 => ?_) (fun c4 => ?_)
    · rw [if_pos c4] at hf
      refine W.widen (k := 2 * (M.2.2 - c0)) (n := 52 * (M.2.2 - c0)) (by omega) (by omega) ?_
      exact k_X11_countPairs_55 hC (by omega) hq13 hm13 hf hw (lv_sub hl [0, 1, 2, 3, 4] rfl)
    · rw [if_neg c4] at hf
      obtain ⟨y5, ey5, hf⟩ := sq_e hf
      refine lv_iinc (v := y5) (lv' := [(3, .int y5), (0, .ref (ad 0)), (1, .int x1), (2, .int x2), (4, .int x4)]) hx hb dX11_countPairs_37 hl (k := 3) rfl (by rw [ey5]; rfl) (by decide) rfl (fun ls hl => ?_)
      refine lv_aload_n hx hb dX11_countPairs_40 rfl (lv_at hl 1 rfl) ?_
      refine lv_aload_n hx hb dX11_countPairs_41 rfl (lv_at hl 1 rfl) ?_
      refine rg_p hC hw 0 (Nat.le_of_ble_eq_true rfl) rfl fd_X11_3 wf_X11_35 (q := 14) rfl dX11_countPairs_42 ?_
      refine lv_iload hx hb dX11_countPairs_45 (lv_at hl 4 rfl) ?_
      refine lv_iload_n hx hb dX11_countPairs_47 rfl (lv_at hl 2 rfl) ?_
      refine lv_iload_n hx hb dX11_countPairs_48 rfl (lv_at hl 3 rfl) ?_
      obtain ⟨z6, ez6, hf⟩ := bd_e hf
      have mz6 : M.2.2 ≤ z6.2.2.2 := mo_X3_courseAt ez6
      have hnz : z6.2.2.2 ≤ z.2.2.2 := mo_X11_countPairs_52 hm13 hf
      refine cla_Vi hC hw (c_X3_courseAt ez6) hd_X3_courseAt cw_X11_195 (Nat.le_of_ble_eq_true rfl) rfl rfl (rest := [.ref (ad 0)]) hl.1 rfl (Nat.le_of_ble_eq_true rfl) ⟨Nat.le_of_ble_eq_true rfl, Nat.le_of_ble_eq_true rfl⟩ ⟨(show 2 * (M.2.2 - c0) + 2 * (z6.2.2.2 - M.2.2) ≤ 2 * (z.2.2.2 - c0) by omega), (show 52 * (M.2.2 - c0) + 52 * (z6.2.2.2 - M.2.2) ≤ 52 * (z.2.2.2 - c0) by omega)⟩ rfl dX11_countPairs_49 (fun u H locs hw => ?_)
      refine W.widen (k := 2 * (z6.2.2.2 - c0)) (n := 52 * (z6.2.2.2 - c0)) (by omega) (by omega) ?_
      exact k_X11_countPairs_52 hC (by omega) hq13 hm13 hf hw (lv_sub hl [1, 2, 3, 0, 4] rfl)
set_option maxRecDepth 100000 in
set_option maxHeartbeats 4000000 in
theorem k_X11_countPairs_13l {p : Program} {l : Launch} {e : Env} {s : State} {m : MethodId} {args : Array Value} {below : List Frame} {meth : Method} {c : Code} {D : va_G} {cy : Nat → ClassId} {z0 : Nat} {ad : Nat → Nat} {X : va_W} (hC : cx_C p s m args meth c cX11_countPairs "RhymedThen" (Cond.code yX11_countPairs cX11_countPairs 5 (some .int)) 5 (some .int)) {z : (Int32 × mm_M)} {c0 : Nat} : ∀ (n : Nat) (x1 : Int32) (x2 : Int32) (x3 : Int32) (x4 : Int32) (M : mm_M) (u : Nat × Nat) (H : Heap) (locs : List Loc) (ls : Array Slot), c0 ≤ M.2.2 → f_X11_countPairs_13l n x1 x2 x3 x4 M = some z → wd_in cx_T D cy z0 ad u M X s H locs → lv_has ls 5 [(0, .ref (ad 0)), (1, .int x1), (2, .int x2), (3, .int x3), (4, .int x4)] → W p l e { frames := 7, cells := 2 * (z.2.2.2 - c0), slots := 52 * (z.2.2.2 - c0), locals := 215 } s m args below meth c H locs (2 * (M.2.2 - c0)) (52 * (M.2.2 - c0)) (MQ below (aq_i cx_T D cy z0 ad X z.1 z.2) args s (2 * (z.2.2.2 - c0)) (52 * (z.2.2.2 - c0)) (fun q => z0 ≤ q)) (F0 m 13 ls []) := by
  intro n
  induction n with
  | zero => intro x1 x2 x3 x4 M u H locs ls hc0 hf; exact absurd hf (by simp [f_X11_countPairs_13l])
  | succ n ih => intro x1 x2 x3 x4 M u H locs ls hc0 hf hw hl; exact k_X11_countPairs_13 hC hc0 ih (mo_X11_countPairs_13l n) hf hw hl
set_option maxRecDepth 100000 in
set_option maxHeartbeats 4000000 in
theorem k_X11_countPairs {p : Program} {l : Launch} {e : Env} {s : State} {m : MethodId} {args : Array Value} {below : List Frame} {meth : Method} {c : Code} {D : va_G} {cy : Nat → ClassId} {z0 : Nat} {ad : Nat → Nat} {X : va_W} {u : Nat × Nat} (hC : cx_C p s m args meth c cX11_countPairs "RhymedThen" (Cond.code yX11_countPairs cX11_countPairs 5 (some .int)) 5 (some .int)) {z : (Int32 × mm_M)} {c0 : Nat} {x1 : Int32} {x2 : Int32} {M : mm_M} (hc0 : c0 ≤ M.2.2) (hf : f_X11_countPairs x1 x2 M = some z) {H : Heap} {locs : List Loc} (hw : wd_in cx_T D cy z0 ad u M X s H locs) {ls : Array Slot} (hl : lv_has ls 5 [(0, .ref (ad 0)), (1, .int x1), (2, .int x2)]) : W p l e { frames := 7, cells := 2 * (z.2.2.2 - c0), slots := 52 * (z.2.2.2 - c0), locals := 215 } s m args below meth c H locs (2 * (M.2.2 - c0)) (52 * (M.2.2 - c0)) (MQ below (aq_i cx_T D cy z0 ad X z.1 z.2) args s (2 * (z.2.2.2 - c0)) (52 * (z.2.2.2 - c0)) (fun q => z0 ≤ q)) (F0 m 0 ls []) := by
  have hx := hC.1
  have hb := hC.2.1
  have hmz : M.2.2 ≤ z.2.2.2 := mo_X11_countPairs hf
  unfold f_X11_countPairs at hf
  refine lv_aload_n hx hb dX11_countPairs_0 rfl (lv_at hl 0 rfl) ?_
  refine rg_p hC hw 0 (Nat.le_of_ble_eq_true rfl) rfl fd_X11_12 wf_X11_86 (q := 69) rfl dX11_countPairs_1 ?_
  refine lv_iconst (v := 0) hx hb dX11_countPairs_4 (by decide) ?_
  obtain ⟨z1, ez1, hf⟩ := bd_e hf
  have mz1 : M.2.2 ≤ z1.2.2 := mo_J7_fill_53178 ez1
  refine clc_Sv hC hw (c_J7_fill_53178 ez1) hd_J7_fill_53178 cw_X11_415 (rest := []) hl.1 rfl (Nat.le_of_ble_eq_true rfl) ⟨Nat.le_of_ble_eq_true rfl, Nat.le_of_ble_eq_true rfl⟩ ⟨(show 2 * (M.2.2 - c0) ≤ 2 * (z.2.2.2 - c0) by omega), (show 52 * (M.2.2 - c0) ≤ 52 * (z.2.2.2 - c0) by omega)⟩ rfl dX11_countPairs_5 (fun H locs hw => ?_)
  refine lv_iconst (v := 0) hx hb dX11_countPairs_8 (by decide) ?_
  refine lv_istore_n (lv' := [(3, .int 0), (0, .ref (ad 0)), (1, .int x1), (2, .int x2)]) hx hb dX11_countPairs_9 rfl hl (by decide) rfl (fun ls hl => ?_)
  refine lv_iconst (v := 0) hx hb dX11_countPairs_10 (by decide) ?_
  refine lv_istore (lv' := [(4, .int 0), (3, .int 0), (0, .ref (ad 0)), (1, .int x1), (2, .int x2)]) hx hb dX11_countPairs_11 hl (by decide) rfl (fun ls hl => ?_)
  refine W.widen (k := 2 * (z1.2.2 - c0)) (n := 52 * (z1.2.2 - c0)) (by omega) (by omega) ?_
  exact k_X11_countPairs_13l hC fu_ _ _ _ _ _ _ _ _ _ (by omega) hf hw (lv_sub hl [2, 3, 4, 1, 0] rfl)
set_option maxRecDepth 100000 in
theorem c_X11_countPairs {l : Launch} {D : va_G} {cy : Nat → ClassId} {z0 : Nat} {ad : Nat → Nat} {u : Nat × Nat} {X : va_W} {z : (Int32 × mm_M)} {x1 : Int32} {x2 : Int32} {M : mm_M} (hf : f_X11_countPairs x1 x2 M = some z) : ca_i cx_T l yX11_countPairs (Cond.code yX11_countPairs cX11_countPairs 5 (some .int)) 7 215 D cy z0 ad u M X [.ref (ad 0), .int x1, .int x2] z.1 z.2 := by
  refine bga_i (by decide) (fun p e s m below meth c hC hw => ?_)
  refine en_t (Nat.le_of_ble_eq_true rfl) (fun ls hl => ?_)
  have hl : lv_has ls 5 [(0, .ref (ad 0)), (1, .int x1), (2, .int x2)] := hl
  refine W.widen (k := 2 * (M.2.2 - M.2.2)) (n := 52 * (M.2.2 - M.2.2)) (by omega) (by omega) ?_
  exact k_X11_countPairs hC (Nat.le_refl _) hf hw hl
set_option maxRecDepth 100000 in
set_option maxHeartbeats 4000000 in
theorem k_X11_look_122 {p : Program} {l : Launch} {e : Env} {s : State} {m : MethodId} {args : Array Value} {below : List Frame} {meth : Method} {c : Code} {D : va_G} {cy : Nat → ClassId} {z0 : Nat} {ad : Nat → Nat} {X : va_W} {u : Nat × Nat} (hC : cx_C p s m args meth c cX11_look "RhymedThen" (Cond.code yX11_look cX11_look 8 (some .int)) 8 (some .int)) {z : (Int32 × mm_M)} {c0 : Nat} {x3 : Int32} {x5 : Int32} {x6 : Int32} {t0 : Int32} {M : mm_M} (hc0 : c0 ≤ M.2.2) {q72 : Int32 → Int32 → Int32 → Int32 → mm_M → Option (Int32 × mm_M)} (hq72 : ∀ (x3 : Int32) (x4 : Int32) (x5 : Int32) (x6 : Int32) (M : mm_M) (u : Nat × Nat) (H : Heap) (locs : List Loc) (ls : Array Slot), c0 ≤ M.2.2 → q72 x3 x4 x5 x6 M = some z → wd_in cx_T D cy z0 ad u M X s H locs → lv_has ls 8 [(0, .ref (ad 0)), (3, .int x3), (4, .int x4), (5, .int x5), (6, .int x6)] → W p l e { frames := 8, cells := 2 * (z.2.2.2 - c0), slots := 52 * (z.2.2.2 - c0), locals := 239 } s m args below meth c H locs (2 * (M.2.2 - c0)) (52 * (M.2.2 - c0)) (MQ below (aq_i cx_T D cy z0 ad X z.1 z.2) args s (2 * (z.2.2.2 - c0)) (52 * (z.2.2.2 - c0)) (fun q => z0 ≤ q)) (F0 m 72 ls [])) (hm72 : ∀ (x3 : Int32) (x4 : Int32) (x5 : Int32) (x6 : Int32) (M : mm_M), q72 x3 x4 x5 x6 M = some z → M.2.2 ≤ z.2.2.2) (hf : f_X11_look_122 q72 x3 x5 x6 t0 M = some z) {H : Heap} {locs : List Loc} (hw : wd_in cx_T D cy z0 ad u M X s H locs) {ls : Array Slot} (hl : lv_has ls 8 [(0, .ref (ad 0)), (3, .int x3), (5, .int x5), (6, .int x6)]) : W p l e { frames := 8, cells := 2 * (z.2.2.2 - c0), slots := 52 * (z.2.2.2 - c0), locals := 239 } s m args below meth c H locs (2 * (M.2.2 - c0)) (52 * (M.2.2 - c0)) (MQ below (aq_i cx_T D cy z0 ad X z.1 z.2) args s (2 * (z.2.2.2 - c0)) (52 * (z.2.2.2 - c0)) (fun q => z0 ≤ q)) (F0 m 122 ls [.int t0]) := by
  have hx := hC.1
  have hb := hC.2.1
  have hmz : M.2.2 ≤ z.2.2.2 := mo_X11_look_122 hm72 hf
  unfold f_X11_look_122 at hf
  refine lv_istore (lv' := [(4, .int t0), (0, .ref (ad 0)), (3, .int x3), (5, .int x5), (6, .int x6)]) hx hb dX11_look_122 hl (by decide) rfl (fun ls hl => ?_)
  obtain ⟨y22, ey22, hf⟩ := sq_e hf
  refine lv_iinc (v := y22) (lv' := [(6, .int y22), (4, .int t0), (0, .ref (ad 0)), (3, .int x3), (5, .int x5)]) hx hb dX11_look_124 hl (k := 4) rfl (by rw [ey22]; rfl) (by decide) rfl (fun ls hl => ?_)
  refine lv_goto (tgt := 72) hx hb dX11_look_127 (by decide) ?_
  refine W.widen (k := 2 * (M.2.2 - c0)) (n := 52 * (M.2.2 - c0)) (by omega) (by omega) ?_
  exact hq72 _ _ _ _ _ _ _ _ _ (by omega) hf hw (lv_sub hl [2, 3, 1, 4, 0] rfl)
set_option maxRecDepth 100000 in
set_option maxHeartbeats 4000000 in
theorem k_X11_look_130 {p : Program} {l : Launch} {e : Env} {s : State} {m : MethodId} {args : Array Value} {below : List Frame} {meth : Method} {c : Code} {D : va_G} {cy : Nat → ClassId} {z0 : Nat} {ad : Nat → Nat} {X : va_W} {u : Nat × Nat} (hC : cx_C p s m args meth c cX11_look "RhymedThen" (Cond.code yX11_look cX11_look 8 (some .int)) 8 (some .int)) {z : (Int32 × mm_M)} {c0 : Nat} {x3 : Int32} {x4 : Int32} {x5 : Int32} {M : mm_M} (hc0 : c0 ≤ M.2.2) {q54 : Int32 → Int32 → Int32 → mm_M → Option (Int32 × mm_M)} (hq54 : ∀ (x3 : Int32) (x4 : Int32) (x5 : Int32) (M : mm_M) (u : Nat × Nat) (H : Heap) (locs : List Loc) (ls : Array Slot), c0 ≤ M.2.2 → q54 x3 x4 x5 M = some z → wd_in cx_T D cy z0 ad u M X s H locs → lv_has ls 8 [(0, .ref (ad 0)), (3, .int x3), (4, .int x4), (5, .int x5)] → W p l e { frames := 8, cells := 2 * (z.2.2.2 - c0), slots := 52 * (z.2.2.2 - c0), locals := 239 } s m args below meth c H locs (2 * (M.2.2 - c0)) (52 * (M.2.2 - c0)) (MQ below (aq_i cx_T D cy z0 ad X z.1 z.2) args s (2 * (z.2.2.2 - c0)) (52 * (z.2.2.2 - c0)) (fun q => z0 ≤ q)) (F0 m 54 ls [])) (hm54 : ∀ (x3 : Int32) (x4 : Int32) (x5 : Int32) (M : mm_M), q54 x3 x4 x5 M = some z → M.2.2 ≤ z.2.2.2) (hf : f_X11_look_130 q54 x3 x4 x5 M = some z) {H : Heap} {locs : List Loc} (hw : wd_in cx_T D cy z0 ad u M X s H locs) {ls : Array Slot} (hl : lv_has ls 8 [(0, .ref (ad 0)), (3, .int x3), (4, .int x4), (5, .int x5)]) : W p l e { frames := 8, cells := 2 * (z.2.2.2 - c0), slots := 52 * (z.2.2.2 - c0), locals := 239 } s m args below meth c H locs (2 * (M.2.2 - c0)) (52 * (M.2.2 - c0)) (MQ below (aq_i cx_T D cy z0 ad X z.1 z.2) args s (2 * (z.2.2.2 - c0)) (52 * (z.2.2.2 - c0)) (fun q => z0 ≤ q)) (F0 m 130 ls []) := by
  have hx := hC.1
  have hb := hC.2.1
  have hmz : M.2.2 ≤ z.2.2.2 := mo_X11_look_130 hm54 hf
  unfold f_X11_look_130 at hf
  obtain ⟨y21, ey21, hf⟩ := sq_e hf
  refine lv_iinc (v := y21) (lv' := [(5, .int y21), (0, .ref (ad 0)), (3, .int x3), (4, .int x4)]) hx hb dX11_look_130 hl (k := 3) rfl (by rw [ey21]; rfl) (by decide) rfl (fun ls hl => ?_)
  refine lv_goto (tgt := 54) hx hb dX11_look_133 (by decide) ?_
  refine W.widen (k := 2 * (M.2.2 - c0)) (n := 52 * (M.2.2 - c0)) (by omega) (by omega) ?_
  exact hq54 _ _ _ _ _ _ _ _ (by omega) hf hw (lv_sub hl [1, 2, 3, 0] rfl)
set_option maxRecDepth 100000 in
set_option maxHeartbeats 4000000 in
theorem k_X11_look_72 {p : Program} {l : Launch} {e : Env} {s : State} {m : MethodId} {args : Array Value} {below : List Frame} {meth : Method} {c : Code} {D : va_G} {cy : Nat → ClassId} {z0 : Nat} {ad : Nat → Nat} {X : va_W} {u : Nat × Nat} (hC : cx_C p s m args meth c cX11_look "RhymedThen" (Cond.code yX11_look cX11_look 8 (some .int)) 8 (some .int)) {z : (Int32 × mm_M)} {c0 : Nat} {x3 : Int32} {x4 : Int32} {x5 : Int32} {x6 : Int32} {M : mm_M} (hc0 : c0 ≤ M.2.2) {q54 : Int32 → Int32 → Int32 → mm_M → Option (Int32 × mm_M)} (hq54 : ∀ (x3 : Int32) (x4 : Int32) (x5 : Int32) (M : mm_M) (u : Nat × Nat) (H : Heap) (locs : List Loc) (ls : Array Slot), c0 ≤ M.2.2 → q54 x3 x4 x5 M = some z → wd_in cx_T D cy z0 ad u M X s H locs → lv_has ls 8 [(0, .ref (ad 0)), (3, .int x3), (4, .int x4), (5, .int x5)] → W p l e { frames := 8, cells := 2 * (z.2.2.2 - c0), slots := 52 * (z.2.2.2 - c0), locals := 239 } s m args below meth c H locs (2 * (M.2.2 - c0)) (52 * (M.2.2 - c0)) (MQ below (aq_i cx_T D cy z0 ad X z.1 z.2) args s (2 * (z.2.2.2 - c0)) (52 * (z.2.2.2 - c0)) (fun q => z0 ≤ q)) (F0 m 54 ls [])) (hm54 : ∀ (x3 : Int32) (x4 : Int32) (x5 : Int32) (M : mm_M), q54 x3 x4 x5 M = some z → M.2.2 ≤ z.2.2.2) {q72 : Int32 → Int32 → Int32 → Int32 → mm_M → Option (Int32 × mm_M)} (hq72 : ∀ (x3 : Int32) (x4 : Int32) (x5 : Int32) (x6 : Int32) (M : mm_M) (u : Nat × Nat) (H : Heap) (locs : List Loc) (ls : Array Slot), c0 ≤ M.2.2 → q72 x3 x4 x5 x6 M = some z → wd_in cx_T D cy z0 ad u M X s H locs → lv_has ls 8 [(0, .ref (ad 0)), (3, .int x3), (4, .int x4), (5, .int x5), (6, .int x6)] → W p l e { frames := 8, cells := 2 * (z.2.2.2 - c0), slots := 52 * (z.2.2.2 - c0), locals := 239 } s m args below meth c H locs (2 * (M.2.2 - c0)) (52 * (M.2.2 - c0)) (MQ below (aq_i cx_T D cy z0 ad X z.1 z.2) args s (2 * (z.2.2.2 - c0)) (52 * (z.2.2.2 - c0)) (fun q => z0 ≤ q)) (F0 m 72 ls [])) (hm72 : ∀ (x3 : Int32) (x4 : Int32) (x5 : Int32) (x6 : Int32) (M : mm_M), q72 x3 x4 x5 x6 M = some z → M.2.2 ≤ z.2.2.2) (hf : f_X11_look_72 q54 q72 x3 x4 x5 x6 M = some z) {H : Heap} {locs : List Loc} (hw : wd_in cx_T D cy z0 ad u M X s H locs) {ls : Array Slot} (hl : lv_has ls 8 [(0, .ref (ad 0)), (3, .int x3), (4, .int x4), (5, .int x5), (6, .int x6)]) : W p l e { frames := 8, cells := 2 * (z.2.2.2 - c0), slots := 52 * (z.2.2.2 - c0), locals := 239 } s m args below meth c H locs (2 * (M.2.2 - c0)) (52 * (M.2.2 - c0)) (MQ below (aq_i cx_T D cy z0 ad X z.1 z.2) args s (2 * (z.2.2.2 - c0)) (52 * (z.2.2.2 - c0)) (fun q => z0 ≤ q)) (F0 m 72 ls []) := by
  have hx := hC.1
  have hb := hC.2.1
  have hmz : M.2.2 ≤ z.2.2.2 := mo_X11_look_72 hm54 hm72 hf
  unfold f_X11_look_72 at hf
  refine lv_iload hx hb dX11_look_72 (lv_at hl 4 rfl) ?_
  refine lv_aload_n hx hb dX11_look_74 rfl (lv_at hl 0 rfl) ?_
  refine rg_p hC hw 0 (Nat.le_of_ble_eq_true rfl) rfl fd_X11_2 wf_X11_26 (q := 5) rfl dX11_look_75 ?_
  refine rg_i hC hw 5 (Nat.le_of_ble_eq_true rfl) rfl fd_X9_2 wf_X11_116 dX11_look_78 ?_
  refine lv_icmp_ge (tgt := 130) hx hb dX11_look_81 (by decide) (fun c15 => ?_) (fun c15 => ?_)
  · rw [if_pos c15] at hf
    refine W.widen (k := 2 * (M.2.2 - c0)) (n := 52 * (M.2.2 - c0)) (by omega) (by omega) ?_
    exact k_X11_look_130 hC (by omega) hq54 hm54 hf hw (lv_sub hl [0, 1, 2, 3] rfl)
  · rw [if_neg c15] at hf
    refine lv_iload hx hb dX11_look_84 (lv_at hl 3 rfl) ?_
    refine lv_bipush (v := 20) hx hb dX11_look_86 (by decide) ?_
    refine lv_imul hx hb dX11_look_88 ?_
    refine lv_iload hx hb dX11_look_89 (lv_at hl 4 rfl) ?_
    refine lv_iadd hx hb dX11_look_91 ?_
    obtain ⟨y16, ey16, hf⟩ := sq_e hf
    refine lt_i ey16 ?_
    refine lv_istore (lv' := [(7, .int y16), (0, .ref (ad 0)), (3, .int x3), (4, .int x4), (5, .int x5), (6, .int x6)]) hx hb dX11_look_92 hl (by decide) rfl (fun ls hl => ?_)
    refine lv_aload_n hx hb dX11_look_94 rfl (lv_at hl 1 rfl) ?_
    refine rg_p hC hw 0 (Nat.le_of_ble_eq_true rfl) rfl fd_X11_12 wf_X11_86 (q := 69) rfl dX11_look_95 ?_
    refine lv_iload hx hb dX11_look_98 (lv_at hl 0 rfl) ?_
    obtain ⟨h17, hf⟩ := ck_e hf
    refine ra_i hC hw 69 (Nat.le_of_ble_eq_true rfl) rfl h17 dX11_look_100 ?_
    refine lv_aload_n hx hb dX11_look_101 rfl (lv_at hl 1 rfl) ?_
    refine rg_p hC hw 0 (Nat.le_of_ble_eq_true rfl) rfl fd_X11_12 wf_X11_86 (q := 69) rfl dX11_look_102 ?_
    refine lv_iload hx hb dX11_look_105 (lv_at hl 3 rfl) ?_
    obtain ⟨h18, hf⟩ := ck_e hf
    refine ra_i hC hw 69 (Nat.le_of_ble_eq_true rfl) rfl h18 dX11_look_107 ?_
    refine lv_iload_n hx hb dX11_look_108 rfl (lv_at hl 2 rfl) ?_
    obtain ⟨z19, ez19, hf⟩ := sq_e hf
    refine clc_Si hC hw (c_X11_isMoreEven ez19.symm) hd_X11_isMoreEven cw_X11_364 (rest := []) hl.1 rfl (Nat.le_of_ble_eq_true rfl) ⟨Nat.le_of_ble_eq_true rfl, Nat.le_of_ble_eq_true rfl⟩ ⟨(show 2 * (M.2.2 - c0) ≤ 2 * (z.2.2.2 - c0) by omega), (show 52 * (M.2.2 - c0) ≤ 52 * (z.2.2.2 - c0) by omega)⟩ rfl dX11_look_109 (fun H locs hw => ?_)
    refine lv_if_eq (tgt := 120) hx hb dX11_look_112 (by decide) (fun c20 => ?_) (fun c20 => ?_)
    · rw [if_pos c20] at hf
      refine lv_iload hx hb dX11_look_120 (lv_at hl 3 rfl) ?_
      refine W.widen (k := 2 * (M.2.2 - c0)) (n := 52 * (M.2.2 - c0)) (by omega) (by omega) ?_
      exact k_X11_look_122 hC (by omega) hq72 hm72 hf hw (lv_sub hl [1, 2, 4, 5] rfl)
    · rw [if_neg c20] at hf
      refine lv_iload hx hb dX11_look_115 (lv_at hl 0 rfl) ?_
      refine lv_goto (tgt := 122) hx hb dX11_look_117 (by decide) ?_
      refine W.widen (k := 2 * (M.2.2 - c0)) (n := 52 * (M.2.2 - c0)) (by omega) (by omega) ?_
      exact k_X11_look_122 hC (by omega) hq72 hm72 hf hw (lv_sub hl [1, 2, 4, 5] rfl)
set_option maxRecDepth 100000 in
set_option maxHeartbeats 4000000 in
theorem k_X11_look_72l {p : Program} {l : Launch} {e : Env} {s : State} {m : MethodId} {args : Array Value} {below : List Frame} {meth : Method} {c : Code} {D : va_G} {cy : Nat → ClassId} {z0 : Nat} {ad : Nat → Nat} {X : va_W} (hC : cx_C p s m args meth c cX11_look "RhymedThen" (Cond.code yX11_look cX11_look 8 (some .int)) 8 (some .int)) {z : (Int32 × mm_M)} {c0 : Nat} {q54 : Int32 → Int32 → Int32 → mm_M → Option (Int32 × mm_M)} (hq54 : ∀ (x3 : Int32) (x4 : Int32) (x5 : Int32) (M : mm_M) (u : Nat × Nat) (H : Heap) (locs : List Loc) (ls : Array Slot), c0 ≤ M.2.2 → q54 x3 x4 x5 M = some z → wd_in cx_T D cy z0 ad u M X s H locs → lv_has ls 8 [(0, .ref (ad 0)), (3, .int x3), (4, .int x4), (5, .int x5)] → W p l e { frames := 8, cells := 2 * (z.2.2.2 - c0), slots := 52 * (z.2.2.2 - c0), locals := 239 } s m args below meth c H locs (2 * (M.2.2 - c0)) (52 * (M.2.2 - c0)) (MQ below (aq_i cx_T D cy z0 ad X z.1 z.2) args s (2 * (z.2.2.2 - c0)) (52 * (z.2.2.2 - c0)) (fun q => z0 ≤ q)) (F0 m 54 ls [])) (hm54 : ∀ (x3 : Int32) (x4 : Int32) (x5 : Int32) (M : mm_M), q54 x3 x4 x5 M = some z → M.2.2 ≤ z.2.2.2) : ∀ (n : Nat) (x3 : Int32) (x4 : Int32) (x5 : Int32) (x6 : Int32) (M : mm_M) (u : Nat × Nat) (H : Heap) (locs : List Loc) (ls : Array Slot), c0 ≤ M.2.2 → f_X11_look_72l q54 n x3 x4 x5 x6 M = some z → wd_in cx_T D cy z0 ad u M X s H locs → lv_has ls 8 [(0, .ref (ad 0)), (3, .int x3), (4, .int x4), (5, .int x5), (6, .int x6)] → W p l e { frames := 8, cells := 2 * (z.2.2.2 - c0), slots := 52 * (z.2.2.2 - c0), locals := 239 } s m args below meth c H locs (2 * (M.2.2 - c0)) (52 * (M.2.2 - c0)) (MQ below (aq_i cx_T D cy z0 ad X z.1 z.2) args s (2 * (z.2.2.2 - c0)) (52 * (z.2.2.2 - c0)) (fun q => z0 ≤ q)) (F0 m 72 ls []) := by
  intro n
  induction n with
  | zero => intro x3 x4 x5 x6 M u H locs ls hc0 hf; exact absurd hf (by simp [f_X11_look_72l])
  | succ n ih => intro x3 x4 x5 x6 M u H locs ls hc0 hf hw hl; exact k_X11_look_72 hC hc0 hq54 hm54 ih (mo_X11_look_72l hm54 n) hf hw hl
set_option maxRecDepth 100000 in
set_option maxHeartbeats 4000000 in
theorem k_X11_look_136 {p : Program} {l : Launch} {e : Env} {s : State} {m : MethodId} {args : Array Value} {below : List Frame} {meth : Method} {c : Code} {D : va_G} {cy : Nat → ClassId} {z0 : Nat} {ad : Nat → Nat} {X : va_W} {u : Nat × Nat} (hC : cx_C p s m args meth c cX11_look "RhymedThen" (Cond.code yX11_look cX11_look 8 (some .int)) 8 (some .int)) {z : (Int32 × mm_M)} {c0 : Nat} {x4 : Int32} {M : mm_M} (hc0 : c0 ≤ M.2.2) (hf : f_X11_look_136 x4 M = some z) {H : Heap} {locs : List Loc} (hw : wd_in cx_T D cy z0 ad u M X s H locs) {ls : Array Slot} (hl : lv_has ls 8 [(0, .ref (ad 0)), (4, .int x4)]) : W p l e { frames := 8, cells := 2 * (z.2.2.2 - c0), slots := 52 * (z.2.2.2 - c0), locals := 239 } s m args below meth c H locs (2 * (M.2.2 - c0)) (52 * (M.2.2 - c0)) (MQ below (aq_i cx_T D cy z0 ad X z.1 z.2) args s (2 * (z.2.2.2 - c0)) (52 * (z.2.2.2 - c0)) (fun q => z0 ≤ q)) (F0 m 136 ls []) := by
  have hx := hC.1
  have hb := hC.2.1
  have hmz : M.2.2 ≤ z.2.2.2 := mo_X11_look_136 hf
  unfold f_X11_look_136 at hf
  refine lv_aload_n hx hb dX11_look_136 rfl (lv_at hl 0 rfl) ?_
  refine rg_p hC hw 0 (Nat.le_of_ble_eq_true rfl) rfl fd_X11_1 wf_X11_19 (q := 3) rfl dX11_look_137 ?_
  obtain ⟨z11, ez11, hf⟩ := sq_e hf
  have mz11 : M.2.2 ≤ z11.2.2 := mo_X4_clear ez11.symm
  refine clc_Vv hC hw (c_X4_clear ez11.symm) hd_X4_clear cw_X11_192 (Nat.le_of_ble_eq_true rfl) rfl rfl (rest := []) hl.1 rfl (Nat.le_of_ble_eq_true rfl) ⟨Nat.le_of_ble_eq_true rfl, Nat.le_of_ble_eq_true rfl⟩ ⟨(show 2 * (M.2.2 - c0) ≤ 2 * (z.2.2.2 - c0) by omega), (show 52 * (M.2.2 - c0) ≤ 52 * (z.2.2.2 - c0) by omega)⟩ rfl dX11_look_140 (fun H locs hw => ?_)
  refine lv_aload_n hx hb dX11_look_143 rfl (lv_at hl 0 rfl) ?_
  refine rg_p hC hw 0 (Nat.le_of_ble_eq_true rfl) rfl fd_X11_1 wf_X11_19 (q := 3) rfl dX11_look_144 ?_
  refine lv_iload hx hb dX11_look_147 (lv_at hl 1 rfl) ?_
  refine lv_bipush (v := 20) hx hb dX11_look_149 (by decide) ?_
  refine lv_idiv hx hb dX11_look_151 (by decide) ?_
  refine lv_i2l hx hb dX11_look_152 rfl ?_
  obtain ⟨z12, ez12, hf⟩ := bd_e hf
  have mz12 : z11.2.2 ≤ z12.2.2 := mo_X4_add ez12
  refine clc_Vv hC hw (c_X4_add ez12) hd_X4_add cw_X11_214 (Nat.le_of_ble_eq_true rfl) rfl rfl (rest := []) hl.1 rfl (Nat.le_of_ble_eq_true rfl) ⟨Nat.le_of_ble_eq_true rfl, Nat.le_of_ble_eq_true rfl⟩ ⟨(show 2 * (M.2.2 - c0) ≤ 2 * (z.2.2.2 - c0) by omega), (show 52 * (M.2.2 - c0) ≤ 52 * (z.2.2.2 - c0) by omega)⟩ rfl dX11_look_153 (fun H locs hw => ?_)
  refine lv_aload_n hx hb dX11_look_156 rfl (lv_at hl 0 rfl) ?_
  refine rg_p hC hw 0 (Nat.le_of_ble_eq_true rfl) rfl fd_X11_1 wf_X11_19 (q := 3) rfl dX11_look_157 ?_
  refine lv_iload hx hb dX11_look_160 (lv_at hl 1 rfl) ?_
  refine lv_bipush (v := 20) hx hb dX11_look_162 (by decide) ?_
  refine lv_irem hx hb dX11_look_164 (by decide) ?_
  refine lv_i2l hx hb dX11_look_165 rfl ?_
  obtain ⟨z13, ez13, hf⟩ := bd_e hf
  have mz13 : z12.2.2 ≤ z13.2.2 := mo_X4_add ez13
  refine clc_Vv hC hw (c_X4_add ez13) hd_X4_add cw_X11_214 (Nat.le_of_ble_eq_true rfl) rfl rfl (rest := []) hl.1 rfl (Nat.le_of_ble_eq_true rfl) ⟨Nat.le_of_ble_eq_true rfl, Nat.le_of_ble_eq_true rfl⟩ ⟨(show 2 * (M.2.2 - c0) ≤ 2 * (z.2.2.2 - c0) by omega), (show 52 * (M.2.2 - c0) ≤ 52 * (z.2.2.2 - c0) by omega)⟩ rfl dX11_look_166 (fun H locs hw => ?_)
  refine lv_aload_n hx hb dX11_look_169 rfl (lv_at hl 0 rfl) ?_
  refine rg_p hC hw 0 (Nat.le_of_ble_eq_true rfl) rfl fd_X11_12 wf_X11_86 (q := 69) rfl dX11_look_170 ?_
  refine lv_iload hx hb dX11_look_173 (lv_at hl 1 rfl) ?_
  obtain ⟨h14, hf⟩ := ck_e hf
  refine ra_i hC hw 69 (Nat.le_of_ble_eq_true rfl) rfl h14 dX11_look_175 ?_
  refine W.widen (k := 2 * (z.2.2.2 - c0)) (n := 52 * (z.2.2.2 - c0)) (by omega) (by omega) ?_
  have hz := Option.some.inj hf
  subst hz
  exact rta_i hC hw dX11_look_176
set_option maxRecDepth 100000 in
set_option maxHeartbeats 4000000 in
theorem k_X11_look_54 {p : Program} {l : Launch} {e : Env} {s : State} {m : MethodId} {args : Array Value} {below : List Frame} {meth : Method} {c : Code} {D : va_G} {cy : Nat → ClassId} {z0 : Nat} {ad : Nat → Nat} {X : va_W} {u : Nat × Nat} (hC : cx_C p s m args meth c cX11_look "RhymedThen" (Cond.code yX11_look cX11_look 8 (some .int)) 8 (some .int)) {z : (Int32 × mm_M)} {c0 : Nat} {x3 : Int32} {x4 : Int32} {x5 : Int32} {M : mm_M} (hc0 : c0 ≤ M.2.2) {q54 : Int32 → Int32 → Int32 → mm_M → Option (Int32 × mm_M)} (hq54 : ∀ (x3 : Int32) (x4 : Int32) (x5 : Int32) (M : mm_M) (u : Nat × Nat) (H : Heap) (locs : List Loc) (ls : Array Slot), c0 ≤ M.2.2 → q54 x3 x4 x5 M = some z → wd_in cx_T D cy z0 ad u M X s H locs → lv_has ls 8 [(0, .ref (ad 0)), (3, .int x3), (4, .int x4), (5, .int x5)] → W p l e { frames := 8, cells := 2 * (z.2.2.2 - c0), slots := 52 * (z.2.2.2 - c0), locals := 239 } s m args below meth c H locs (2 * (M.2.2 - c0)) (52 * (M.2.2 - c0)) (MQ below (aq_i cx_T D cy z0 ad X z.1 z.2) args s (2 * (z.2.2.2 - c0)) (52 * (z.2.2.2 - c0)) (fun q => z0 ≤ q)) (F0 m 54 ls [])) (hm54 : ∀ (x3 : Int32) (x4 : Int32) (x5 : Int32) (M : mm_M), q54 x3 x4 x5 M = some z → M.2.2 ≤ z.2.2.2) (hf : f_X11_look_54 q54 x3 x4 x5 M = some z) {H : Heap} {locs : List Loc} (hw : wd_in cx_T D cy z0 ad u M X s H locs) {ls : Array Slot} (hl : lv_has ls 8 [(0, .ref (ad 0)), (3, .int x3), (4, .int x4), (5, .int x5)]) : W p l e { frames := 8, cells := 2 * (z.2.2.2 - c0), slots := 52 * (z.2.2.2 - c0), locals := 239 } s m args below meth c H locs (2 * (M.2.2 - c0)) (52 * (M.2.2 - c0)) (MQ below (aq_i cx_T D cy z0 ad X z.1 z.2) args s (2 * (z.2.2.2 - c0)) (52 * (z.2.2.2 - c0)) (fun q => z0 ≤ q)) (F0 m 54 ls []) := by
  have hx := hC.1
  have hb := hC.2.1
  have hmz : M.2.2 ≤ z.2.2.2 := mo_X11_look_54 hm54 hf
  unfold f_X11_look_54 at hf
  refine lv_iload hx hb dX11_look_54 (lv_at hl 3 rfl) ?_
  refine lv_aload_n hx hb dX11_look_56 rfl (lv_at hl 0 rfl) ?_
  refine rg_p hC hw 0 (Nat.le_of_ble_eq_true rfl) rfl fd_X11_2 wf_X11_26 (q := 5) rfl dX11_look_57 ?_
  refine rg_i hC hw 5 (Nat.le_of_ble_eq_true rfl) rfl fd_X9_2 wf_X11_116 dX11_look_60 ?_
  refine lv_icmp_ge (tgt := 136) hx hb dX11_look_63 (by decide) (fun c9 => ?_) (fun c9 => ?_)
  · rw [if_pos c9] at hf
    refine W.widen (k := 2 * (M.2.2 - c0)) (n := 52 * (M.2.2 - c0)) (by omega) (by omega) ?_
    exact k_X11_look_136 hC (by omega) hf hw (lv_sub hl [0, 2] rfl)
  · rw [if_neg c9] at hf
    refine lv_iload hx hb dX11_look_66 (lv_at hl 3 rfl) ?_
    refine lv_iconst (v := 1) hx hb dX11_look_68 (by decide) ?_
    refine lv_iadd hx hb dX11_look_69 ?_
    obtain ⟨y10, ey10, hf⟩ := sq_e hf
    refine lt_i ey10 ?_
    refine lv_istore (lv' := [(6, .int y10), (0, .ref (ad 0)), (3, .int x3), (4, .int x4), (5, .int x5)]) hx hb dX11_look_70 hl (by decide) rfl (fun ls hl => ?_)
    refine W.widen (k := 2 * (M.2.2 - c0)) (n := 52 * (M.2.2 - c0)) (by omega) (by omega) ?_
    exact k_X11_look_72l hC hq54 hm54 fu_ _ _ _ _ _ _ _ _ _ (by omega) hf hw (lv_sub hl [1, 2, 3, 4, 0] rfl)
set_option maxRecDepth 100000 in
set_option maxHeartbeats 4000000 in
theorem k_X11_look_54l {p : Program} {l : Launch} {e : Env} {s : State} {m : MethodId} {args : Array Value} {below : List Frame} {meth : Method} {c : Code} {D : va_G} {cy : Nat → ClassId} {z0 : Nat} {ad : Nat → Nat} {X : va_W} (hC : cx_C p s m args meth c cX11_look "RhymedThen" (Cond.code yX11_look cX11_look 8 (some .int)) 8 (some .int)) {z : (Int32 × mm_M)} {c0 : Nat} : ∀ (n : Nat) (x3 : Int32) (x4 : Int32) (x5 : Int32) (M : mm_M) (u : Nat × Nat) (H : Heap) (locs : List Loc) (ls : Array Slot), c0 ≤ M.2.2 → f_X11_look_54l n x3 x4 x5 M = some z → wd_in cx_T D cy z0 ad u M X s H locs → lv_has ls 8 [(0, .ref (ad 0)), (3, .int x3), (4, .int x4), (5, .int x5)] → W p l e { frames := 8, cells := 2 * (z.2.2.2 - c0), slots := 52 * (z.2.2.2 - c0), locals := 239 } s m args below meth c H locs (2 * (M.2.2 - c0)) (52 * (M.2.2 - c0)) (MQ below (aq_i cx_T D cy z0 ad X z.1 z.2) args s (2 * (z.2.2.2 - c0)) (52 * (z.2.2.2 - c0)) (fun q => z0 ≤ q)) (F0 m 54 ls []) := by
  intro n
  induction n with
  | zero => intro x3 x4 x5 M u H locs ls hc0 hf; exact absurd hf (by simp [f_X11_look_54l])
  | succ n ih => intro x3 x4 x5 M u H locs ls hc0 hf hw hl; exact k_X11_look_54 hC hc0 ih (mo_X11_look_54l n) hf hw hl
set_option maxRecDepth 100000 in
set_option maxHeartbeats 4000000 in
theorem k_X11_look_40 {p : Program} {l : Launch} {e : Env} {s : State} {m : MethodId} {args : Array Value} {below : List Frame} {meth : Method} {c : Code} {D : va_G} {cy : Nat → ClassId} {z0 : Nat} {ad : Nat → Nat} {X : va_W} {u : Nat × Nat} (hC : cx_C p s m args meth c cX11_look "RhymedThen" (Cond.code yX11_look cX11_look 8 (some .int)) 8 (some .int)) {z : (Int32 × mm_M)} {c0 : Nat} {t0 : Int32} {M : mm_M} (hc0 : c0 ≤ M.2.2) (hf : f_X11_look_40 t0 M = some z) {H : Heap} {locs : List Loc} (hw : wd_in cx_T D cy z0 ad u M X s H locs) {ls : Array Slot} (hl : lv_has ls 8 [(0, .ref (ad 0))]) : W p l e { frames := 8, cells := 2 * (z.2.2.2 - c0), slots := 52 * (z.2.2.2 - c0), locals := 239 } s m args below meth c H locs (2 * (M.2.2 - c0)) (52 * (M.2.2 - c0)) (MQ below (aq_i cx_T D cy z0 ad X z.1 z.2) args s (2 * (z.2.2.2 - c0)) (52 * (z.2.2.2 - c0)) (fun q => z0 ≤ q)) (F0 m 40 ls [.int t0]) := by
  have hx := hC.1
  have hb := hC.2.1
  have hmz : M.2.2 ≤ z.2.2.2 := mo_X11_look_40 hf
  unfold f_X11_look_40 at hf
  refine lv_istore_n (lv' := [(3, .int t0), (0, .ref (ad 0))]) hx hb dX11_look_40 rfl hl (by decide) rfl (fun ls hl => ?_)
  refine lv_iload_n hx hb dX11_look_41 rfl (lv_at hl 0 rfl) ?_
  refine lv_if_ne (tgt := 48) hx hb dX11_look_42 (by decide) (fun c8 => ?_) (fun c8 => ?_)
  · rw [if_neg c8] at hf
    refine lv_iconst (v := 1) hx hb dX11_look_48 (by decide) ?_
    refine lv_istore (lv' := [(4, .int 1), (3, .int t0), (0, .ref (ad 0))]) hx hb dX11_look_49 hl (by decide) rfl (fun ls hl => ?_)
    refine lv_iconst (v := 0) hx hb dX11_look_51 (by decide) ?_
    refine lv_istore (lv' := [(5, .int 0), (4, .int 1), (3, .int t0), (0, .ref (ad 0))]) hx hb dX11_look_52 hl (by decide) rfl (fun ls hl => ?_)
    refine W.widen (k := 2 * (M.2.2 - c0)) (n := 52 * (M.2.2 - c0)) (by omega) (by omega) ?_
    exact k_X11_look_54l hC fu_ _ _ _ _ _ _ _ _ (by omega) hf hw (lv_sub hl [3, 2, 1, 0] rfl)
  · rw [if_pos c8] at hf
    refine lv_bipush (v := (-2)) hx hb dX11_look_45 (by decide) ?_
    refine W.widen (k := 2 * (z.2.2.2 - c0)) (n := 52 * (z.2.2.2 - c0)) (by omega) (by omega) ?_
    have hz := Option.some.inj hf
    subst hz
    exact rta_i hC hw dX11_look_47
set_option maxRecDepth 100000 in
set_option maxHeartbeats 4000000 in
theorem k_X11_look_34 {p : Program} {l : Launch} {e : Env} {s : State} {m : MethodId} {args : Array Value} {below : List Frame} {meth : Method} {c : Code} {D : va_G} {cy : Nat → ClassId} {z0 : Nat} {ad : Nat → Nat} {X : va_W} {u : Nat × Nat} (hC : cx_C p s m args meth c cX11_look "RhymedThen" (Cond.code yX11_look cX11_look 8 (some .int)) 8 (some .int)) {z : (Int32 × mm_M)} {c0 : Nat} {x1 : Int32} {x2 : Int32} {M : mm_M} (hc0 : c0 ≤ M.2.2) (hf : f_X11_look_34 x1 x2 M = some z) {H : Heap} {locs : List Loc} (hw : wd_in cx_T D cy z0 ad u M X s H locs) {ls : Array Slot} (hl : lv_has ls 8 [(0, .ref (ad 0)), (1, .int x1), (2, .int x2)]) : W p l e { frames := 8, cells := 2 * (z.2.2.2 - c0), slots := 52 * (z.2.2.2 - c0), locals := 239 } s m args below meth c H locs (2 * (M.2.2 - c0)) (52 * (M.2.2 - c0)) (MQ below (aq_i cx_T D cy z0 ad X z.1 z.2) args s (2 * (z.2.2.2 - c0)) (52 * (z.2.2.2 - c0)) (fun q => z0 ≤ q)) (F0 m 34 ls []) := by
  have hx := hC.1
  have hb := hC.2.1
  have hmz : M.2.2 ≤ z.2.2.2 := mo_X11_look_34 hf
  unfold f_X11_look_34 at hf
  refine lv_aload_n hx hb dX11_look_34 rfl (lv_at hl 0 rfl) ?_
  refine lv_iload_n hx hb dX11_look_35 rfl (lv_at hl 1 rfl) ?_
  refine lv_iload_n hx hb dX11_look_36 rfl (lv_at hl 2 rfl) ?_
  obtain ⟨z7, ez7, hf⟩ := bd_e hf
  have mz7 : M.2.2 ≤ z7.2.2.2 := mo_X11_countPairs ez7
  have hnz : z7.2.2.2 ≤ z.2.2.2 := mo_X11_look_40 hf
  refine cla_Vi hC hw (c_X11_countPairs ez7) hd_X11_countPairs cw_X11_412 (Nat.le_of_ble_eq_true rfl) rfl rfl (rest := []) hl.1 rfl (Nat.le_of_ble_eq_true rfl) ⟨Nat.le_of_ble_eq_true rfl, Nat.le_of_ble_eq_true rfl⟩ ⟨(show 2 * (M.2.2 - c0) + 2 * (z7.2.2.2 - M.2.2) ≤ 2 * (z.2.2.2 - c0) by omega), (show 52 * (M.2.2 - c0) + 52 * (z7.2.2.2 - M.2.2) ≤ 52 * (z.2.2.2 - c0) by omega)⟩ rfl dX11_look_37 (fun u H locs hw => ?_)
  refine W.widen (k := 2 * (z7.2.2.2 - c0)) (n := 52 * (z7.2.2.2 - c0)) (by omega) (by omega) ?_
  exact k_X11_look_40 hC (by omega) hf hw (lv_sub hl [0] rfl)
set_option maxRecDepth 100000 in
set_option maxHeartbeats 4000000 in
theorem k_X11_look {p : Program} {l : Launch} {e : Env} {s : State} {m : MethodId} {args : Array Value} {below : List Frame} {meth : Method} {c : Code} {D : va_G} {cy : Nat → ClassId} {z0 : Nat} {ad : Nat → Nat} {X : va_W} {u : Nat × Nat} (hC : cx_C p s m args meth c cX11_look "RhymedThen" (Cond.code yX11_look cX11_look 8 (some .int)) 8 (some .int)) {z : (Int32 × mm_M)} {c0 : Nat} {x1 : Int32} {x2 : Int32} {M : mm_M} (hc0 : c0 ≤ M.2.2) (hf : f_X11_look x1 x2 M = some z) {H : Heap} {locs : List Loc} (hw : wd_in cx_T D cy z0 ad u M X s H locs) {ls : Array Slot} (hl : lv_has ls 8 [(0, .ref (ad 0)), (1, .int x1), (2, .int x2)]) : W p l e { frames := 8, cells := 2 * (z.2.2.2 - c0), slots := 52 * (z.2.2.2 - c0), locals := 239 } s m args below meth c H locs (2 * (M.2.2 - c0)) (52 * (M.2.2 - c0)) (MQ below (aq_i cx_T D cy z0 ad X z.1 z.2) args s (2 * (z.2.2.2 - c0)) (52 * (z.2.2.2 - c0)) (fun q => z0 ≤ q)) (F0 m 0 ls []) := by
  have hx := hC.1
  have hb := hC.2.1
  have hmz : M.2.2 ≤ z.2.2.2 := mo_X11_look hf
  unfold f_X11_look at hf
  refine lv_iload_n hx hb dX11_look_0 rfl (lv_at hl 1 rfl) ?_
  obtain ⟨z1, ez1, hf⟩ := sq_e hf
  refine clc_Si hC hw (c_X11_isYear ez1.symm) hd_X11_isYear cw_X11_257 (rest := []) hl.1 rfl (Nat.le_of_ble_eq_true rfl) ⟨Nat.le_of_ble_eq_true rfl, Nat.le_of_ble_eq_true rfl⟩ ⟨(show 2 * (M.2.2 - c0) ≤ 2 * (z.2.2.2 - c0) by omega), (show 52 * (M.2.2 - c0) ≤ 52 * (z.2.2.2 - c0) by omega)⟩ rfl dX11_look_1 (fun H locs hw => ?_)
  refine lv_if_eq (tgt := 25) hx hb dX11_look_4 (by decide) (fun c2 => ?_) (fun c2 => ?_)
  · rw [if_pos c2] at hf
    refine lv_iconst (v := (-1)) hx hb dX11_look_25 (by decide) ?_
    refine W.widen (k := 2 * (z.2.2.2 - c0)) (n := 52 * (z.2.2.2 - c0)) (by omega) (by omega) ?_
    have hz := Option.some.inj hf
    subst hz
    exact rta_i hC hw dX11_look_26
  · rw [if_neg c2] at hf
    refine lv_iload_n hx hb dX11_look_7 rfl (lv_at hl 2 rfl) ?_
    obtain ⟨z3, ez3, hf⟩ := sq_e hf
    refine clc_Si hC hw (c_X11_isPlace ez3.symm) hd_X11_isPlace cw_X11_163 (rest := []) hl.1 rfl (Nat.le_of_ble_eq_true rfl) ⟨Nat.le_of_ble_eq_true rfl, Nat.le_of_ble_eq_true rfl⟩ ⟨(show 2 * (M.2.2 - c0) ≤ 2 * (z.2.2.2 - c0) by omega), (show 52 * (M.2.2 - c0) ≤ 52 * (z.2.2.2 - c0) by omega)⟩ rfl dX11_look_8 (fun H locs hw => ?_)
    refine lv_if_eq (tgt := 25) hx hb dX11_look_11 (by decide) (fun c4 => ?_) (fun c4 => ?_)
    · rw [if_pos c4] at hf
      refine lv_iconst (v := (-1)) hx hb dX11_look_25 (by decide) ?_
      refine W.widen (k := 2 * (z.2.2.2 - c0)) (n := 52 * (z.2.2.2 - c0)) (by omega) (by omega) ?_
      have hz := Option.some.inj hf
      subst hz
      exact rta_i hC hw dX11_look_26
    · rw [if_neg c4] at hf
      refine lv_aload_n hx hb dX11_look_14 rfl (lv_at hl 0 rfl) ?_
      refine rg_p hC hw 0 (Nat.le_of_ble_eq_true rfl) rfl fd_X11_2 wf_X11_26 (q := 5) rfl dX11_look_15 ?_
      refine rg_i hC hw 5 (Nat.le_of_ble_eq_true rfl) rfl fd_X9_2 wf_X11_116 dX11_look_18 ?_
      refine lv_iconst (v := 2) hx hb dX11_look_21 (by decide) ?_
      refine lv_icmp_ge (tgt := 27) hx hb dX11_look_22 (by decide) (fun c5 => ?_) (fun c5 => ?_)
      · rw [if_pos c5] at hf
        refine lv_aload_n hx hb dX11_look_27 rfl (lv_at hl 0 rfl) ?_
        refine rg_p hC hw 0 (Nat.le_of_ble_eq_true rfl) rfl fd_X11_4 wf_X11_44 (q := 19) rfl dX11_look_28 ?_
        obtain ⟨z6, ez6, hf⟩ := bd_e hf
        have mz6 : M.2.2 ≤ z6.2.2 := mo_X6_lookAnew ez6
        have hnz : z6.2.2 ≤ z.2.2.2 := mo_X11_look_34 hf
        refine cla_Vv hC hw (c_X6_lookAnew ez6) hd_X6_lookAnew cw_X11_286 (Nat.le_of_ble_eq_true rfl) rfl rfl (rest := []) hl.1 rfl (Nat.le_of_ble_eq_true rfl) ⟨Nat.le_of_ble_eq_true rfl, Nat.le_of_ble_eq_true rfl⟩ ⟨(show 2 * (M.2.2 - c0) + 2 * (z6.2.2 - M.2.2) ≤ 2 * (z.2.2.2 - c0) by omega), (show 52 * (M.2.2 - c0) + 52 * (z6.2.2 - M.2.2) ≤ 52 * (z.2.2.2 - c0) by omega)⟩ rfl dX11_look_31 (fun u H locs hw => ?_)
        refine W.widen (k := 2 * (z6.2.2 - c0)) (n := 52 * (z6.2.2 - c0)) (by omega) (by omega) ?_
        exact k_X11_look_34 hC (by omega) hf hw (lv_sub hl [0, 1, 2] rfl)
      · rw [if_neg c5] at hf
        refine lv_iconst (v := (-1)) hx hb dX11_look_25 (by decide) ?_
        refine W.widen (k := 2 * (z.2.2.2 - c0)) (n := 52 * (z.2.2.2 - c0)) (by omega) (by omega) ?_
        have hz := Option.some.inj hf
        subst hz
        exact rta_i hC hw dX11_look_26
set_option maxRecDepth 100000 in
theorem c_X11_look {l : Launch} {D : va_G} {cy : Nat → ClassId} {z0 : Nat} {ad : Nat → Nat} {u : Nat × Nat} {X : va_W} {z : (Int32 × mm_M)} {x1 : Int32} {x2 : Int32} {M : mm_M} (hf : f_X11_look x1 x2 M = some z) : ca_i cx_T l yX11_look (Cond.code yX11_look cX11_look 8 (some .int)) 8 239 D cy z0 ad u M X [.ref (ad 0), .int x1, .int x2] z.1 z.2 := by
  refine bga_i (by decide) (fun p e s m below meth c hC hw => ?_)
  refine en_t (Nat.le_of_ble_eq_true rfl) (fun ls hl => ?_)
  have hl : lv_has ls 8 [(0, .ref (ad 0)), (1, .int x1), (2, .int x2)] := hl
  refine W.widen (k := 2 * (M.2.2 - M.2.2)) (n := 52 * (M.2.2 - M.2.2)) (by omega) (by omega) ?_
  exact k_X11_look hC (Nat.le_refl _) hf hw hl
set_option maxRecDepth 100000 in
set_option maxHeartbeats 4000000 in
theorem k_X11_isOneWay_72 {p : Program} {l : Launch} {e : Env} {s : State} {m : MethodId} {args : Array Value} {below : List Frame} {meth : Method} {c : Code} {D : va_G} {cy : Nat → ClassId} {z0 : Nat} {ad : Nat → Nat} {X : va_W} {u : Nat × Nat} (hC : cx_C p s m args meth c cX11_isOneWay "RhymedThen" (Cond.code yX11_isOneWay cX11_isOneWay 9 (some .boolean)) 9 (some .boolean)) {z : (Int32 × mm_M)} {c0 : Nat} {x1 : Int32} {x2 : Int32} {x3 : Int32} {x4 : Int64} {x6 : Int32} {M : mm_M} (hc0 : c0 ≤ M.2.2) {q6 : Int32 → Int32 → Int32 → Int64 → Int32 → mm_M → Option (Int32 × mm_M)} (hq6 : ∀ (x1 : Int32) (x2 : Int32) (x3 : Int32) (x4 : Int64) (x6 : Int32) (M : mm_M) (u : Nat × Nat) (H : Heap) (locs : List Loc) (ls : Array Slot), c0 ≤ M.2.2 → q6 x1 x2 x3 x4 x6 M = some z → wd_in cx_T D cy z0 ad u M X s H locs → lv_has ls 9 [(0, .ref (ad 0)), (1, .int x1), (2, .int x2), (3, .int x3), (4, .long x4), (6, .int x6)] → W p l e { frames := 7, cells := 2 * (z.2.2.2 - c0), slots := 52 * (z.2.2.2 - c0), locals := 215 } s m args below meth c H locs (2 * (M.2.2 - c0)) (52 * (M.2.2 - c0)) (MQ below (aq_i cx_T D cy z0 ad X z.1 z.2) args s (2 * (z.2.2.2 - c0)) (52 * (z.2.2.2 - c0)) (fun q => z0 ≤ q)) (F0 m 6 ls [])) (hm6 : ∀ (x1 : Int32) (x2 : Int32) (x3 : Int32) (x4 : Int64) (x6 : Int32) (M : mm_M), q6 x1 x2 x3 x4 x6 M = some z → M.2.2 ≤ z.2.2.2) (hf : f_X11_isOneWay_72 q6 x1 x2 x3 x4 x6 M = some z) {H : Heap} {locs : List Loc} (hw : wd_in cx_T D cy z0 ad u M X s H locs) {ls : Array Slot} (hl : lv_has ls 9 [(0, .ref (ad 0)), (1, .int x1), (2, .int x2), (3, .int x3), (4, .long x4), (6, .int x6)]) : W p l e { frames := 7, cells := 2 * (z.2.2.2 - c0), slots := 52 * (z.2.2.2 - c0), locals := 215 } s m args below meth c H locs (2 * (M.2.2 - c0)) (52 * (M.2.2 - c0)) (MQ below (aq_i cx_T D cy z0 ad X z.1 z.2) args s (2 * (z.2.2.2 - c0)) (52 * (z.2.2.2 - c0)) (fun q => z0 ≤ q)) (F0 m 72 ls []) := by
  have hx := hC.1
  have hb := hC.2.1
  have hmz : M.2.2 ≤ z.2.2.2 := mo_X11_isOneWay_72 hm6 hf
  unfold f_X11_isOneWay_72 at hf
  obtain ⟨y5, ey5, hf⟩ := sq_e hf
  refine lv_iinc (v := y5) (lv' := [(6, .int y5), (0, .ref (ad 0)), (1, .int x1), (2, .int x2), (3, .int x3), (4, .long x4)]) hx hb dX11_isOneWay_72 hl (k := 5) rfl (by rw [ey5]; rfl) (by decide) rfl (fun ls hl => ?_)
  refine lv_goto (tgt := 6) hx hb dX11_isOneWay_75 (by decide) ?_
  refine W.widen (k := 2 * (M.2.2 - c0)) (n := 52 * (M.2.2 - c0)) (by omega) (by omega) ?_
  exact hq6 _ _ _ _ _ _ _ _ _ _ (by omega) hf hw (lv_sub hl [1, 2, 3, 4, 5, 0] rfl)
set_option maxRecDepth 100000 in
set_option maxHeartbeats 4000000 in
theorem k_X11_isOneWay_68 {p : Program} {l : Launch} {e : Env} {s : State} {m : MethodId} {args : Array Value} {below : List Frame} {meth : Method} {c : Code} {D : va_G} {cy : Nat → ClassId} {z0 : Nat} {ad : Nat → Nat} {X : va_W} {u : Nat × Nat} (hC : cx_C p s m args meth c cX11_isOneWay "RhymedThen" (Cond.code yX11_isOneWay cX11_isOneWay 9 (some .boolean)) 9 (some .boolean)) {z : (Int32 × mm_M)} {c0 : Nat} {x1 : Int32} {x2 : Int32} {x3 : Int32} {x6 : Int32} {x7 : Int64} {M : mm_M} (hc0 : c0 ≤ M.2.2) {q6 : Int32 → Int32 → Int32 → Int64 → Int32 → mm_M → Option (Int32 × mm_M)} (hq6 : ∀ (x1 : Int32) (x2 : Int32) (x3 : Int32) (x4 : Int64) (x6 : Int32) (M : mm_M) (u : Nat × Nat) (H : Heap) (locs : List Loc) (ls : Array Slot), c0 ≤ M.2.2 → q6 x1 x2 x3 x4 x6 M = some z → wd_in cx_T D cy z0 ad u M X s H locs → lv_has ls 9 [(0, .ref (ad 0)), (1, .int x1), (2, .int x2), (3, .int x3), (4, .long x4), (6, .int x6)] → W p l e { frames := 7, cells := 2 * (z.2.2.2 - c0), slots := 52 * (z.2.2.2 - c0), locals := 215 } s m args below meth c H locs (2 * (M.2.2 - c0)) (52 * (M.2.2 - c0)) (MQ below (aq_i cx_T D cy z0 ad X z.1 z.2) args s (2 * (z.2.2.2 - c0)) (52 * (z.2.2.2 - c0)) (fun q => z0 ≤ q)) (F0 m 6 ls [])) (hm6 : ∀ (x1 : Int32) (x2 : Int32) (x3 : Int32) (x4 : Int64) (x6 : Int32) (M : mm_M), q6 x1 x2 x3 x4 x6 M = some z → M.2.2 ≤ z.2.2.2) (hf : f_X11_isOneWay_68 q6 x1 x2 x3 x6 x7 M = some z) {H : Heap} {locs : List Loc} (hw : wd_in cx_T D cy z0 ad u M X s H locs) {ls : Array Slot} (hl : lv_has ls 9 [(0, .ref (ad 0)), (1, .int x1), (2, .int x2), (3, .int x3), (6, .int x6), (7, .long x7)]) : W p l e { frames := 7, cells := 2 * (z.2.2.2 - c0), slots := 52 * (z.2.2.2 - c0), locals := 215 } s m args below meth c H locs (2 * (M.2.2 - c0)) (52 * (M.2.2 - c0)) (MQ below (aq_i cx_T D cy z0 ad X z.1 z.2) args s (2 * (z.2.2.2 - c0)) (52 * (z.2.2.2 - c0)) (fun q => z0 ≤ q)) (F0 m 68 ls []) := by
  have hx := hC.1
  have hb := hC.2.1
  have hmz : M.2.2 ≤ z.2.2.2 := mo_X11_isOneWay_68 hm6 hf
  unfold f_X11_isOneWay_68 at hf
  refine lv_lload hx hb dX11_isOneWay_68 (lv_at hl 5 rfl) ?_
  refine lv_lstore (lv' := [(4, .long x7), (0, .ref (ad 0)), (1, .int x1), (2, .int x2), (3, .int x3), (6, .int x6), (7, .long x7)]) hx hb dX11_isOneWay_70 hl (by decide) rfl (fun ls hl => ?_)
  refine W.widen (k := 2 * (M.2.2 - c0)) (n := 52 * (M.2.2 - c0)) (by omega) (by omega) ?_
  exact k_X11_isOneWay_72 hC (by omega) hq6 hm6 hf hw (lv_sub hl [1, 2, 3, 4, 0, 5] rfl)
set_option maxRecDepth 100000 in
set_option maxHeartbeats 4000000 in
theorem k_X11_isOneWay_45 {p : Program} {l : Launch} {e : Env} {s : State} {m : MethodId} {args : Array Value} {below : List Frame} {meth : Method} {c : Code} {D : va_G} {cy : Nat → ClassId} {z0 : Nat} {ad : Nat → Nat} {X : va_W} {u : Nat × Nat} (hC : cx_C p s m args meth c cX11_isOneWay "RhymedThen" (Cond.code yX11_isOneWay cX11_isOneWay 9 (some .boolean)) 9 (some .boolean)) {z : (Int32 × mm_M)} {c0 : Nat} {x1 : Int32} {x2 : Int32} {x3 : Int32} {x4 : Int64} {x6 : Int32} {t1 : Int32} {M : mm_M} (hc0 : c0 ≤ M.2.2) {q6 : Int32 → Int32 → Int32 → Int64 → Int32 → mm_M → Option (Int32 × mm_M)} (hq6 : ∀ (x1 : Int32) (x2 : Int32) (x3 : Int32) (x4 : Int64) (x6 : Int32) (M : mm_M) (u : Nat × Nat) (H : Heap) (locs : List Loc) (ls : Array Slot), c0 ≤ M.2.2 → q6 x1 x2 x3 x4 x6 M = some z → wd_in cx_T D cy z0 ad u M X s H locs → lv_has ls 9 [(0, .ref (ad 0)), (1, .int x1), (2, .int x2), (3, .int x3), (4, .long x4), (6, .int x6)] → W p l e { frames := 7, cells := 2 * (z.2.2.2 - c0), slots := 52 * (z.2.2.2 - c0), locals := 215 } s m args below meth c H locs (2 * (M.2.2 - c0)) (52 * (M.2.2 - c0)) (MQ below (aq_i cx_T D cy z0 ad X z.1 z.2) args s (2 * (z.2.2.2 - c0)) (52 * (z.2.2.2 - c0)) (fun q => z0 ≤ q)) (F0 m 6 ls [])) (hm6 : ∀ (x1 : Int32) (x2 : Int32) (x3 : Int32) (x4 : Int64) (x6 : Int32) (M : mm_M), q6 x1 x2 x3 x4 x6 M = some z → M.2.2 ≤ z.2.2.2) (hf : f_X11_isOneWay_45 q6 x1 x2 x3 x4 x6 t1 M = some z) {H : Heap} {locs : List Loc} (hw : wd_in cx_T D cy z0 ad u M X s H locs) {ls : Array Slot} (hl : lv_has ls 9 [(0, .ref (ad 0)), (1, .int x1), (2, .int x2), (3, .int x3), (4, .long x4), (6, .int x6)]) : W p l e { frames := 7, cells := 2 * (z.2.2.2 - c0), slots := 52 * (z.2.2.2 - c0), locals := 215 } s m args below meth c H locs (2 * (M.2.2 - c0)) (52 * (M.2.2 - c0)) (MQ below (aq_i cx_T D cy z0 ad X z.1 z.2) args s (2 * (z.2.2.2 - c0)) (52 * (z.2.2.2 - c0)) (fun q => z0 ≤ q)) (F0 m 45 ls [.int t1, .ref (ad 5)]) := by
  have hx := hC.1
  have hb := hC.2.1
  have hmz : M.2.2 ≤ z.2.2.2 := mo_X11_isOneWay_45 hm6 hf
  unfold f_X11_isOneWay_45 at hf
  refine lv_iload_n hx hb dX11_isOneWay_45 rfl (lv_at hl 1 rfl) ?_
  obtain ⟨z6, ez6, hf⟩ := bd_e hf
  refine clc_Vl hC hw (c_X9_formOn ez6) hd_X9_formOn cw_X11_198 (Nat.le_of_ble_eq_true rfl) rfl rfl (rest := []) hl.1 rfl (Nat.le_of_ble_eq_true rfl) ⟨Nat.le_of_ble_eq_true rfl, Nat.le_of_ble_eq_true rfl⟩ ⟨(show 2 * (M.2.2 - c0) ≤ 2 * (z.2.2.2 - c0) by omega), (show 52 * (M.2.2 - c0) ≤ 52 * (z.2.2.2 - c0) by omega)⟩ rfl dX11_isOneWay_46 (fun H locs hw => ?_)
  refine lv_lstore (lv' := [(7, .long z6), (0, .ref (ad 0)), (1, .int x1), (2, .int x2), (3, .int x3), (4, .long x4), (6, .int x6)]) hx hb dX11_isOneWay_49 hl (by decide) rfl (fun ls hl => ?_)
  refine lv_lload hx hb dX11_isOneWay_51 (lv_at hl 5 rfl) ?_
  refine lv_lconst (v := 0) hx hb dX11_isOneWay_53 (by decide) ?_
  refine lc_eq (tgt := 68) hx hb dX11_isOneWay_54 dX11_isOneWay_55 (by decide) (fun c7 => ?_) (fun c7 => ?_)
  · rw [if_pos c7] at hf
    refine W.widen (k := 2 * (M.2.2 - c0)) (n := 52 * (M.2.2 - c0)) (by omega) (by omega) ?_
    exact k_X11_isOneWay_68 hC (by omega) hq6 hm6 hf hw (lv_sub hl [1, 2, 3, 4, 6, 0] rfl)
  · rw [if_neg c7] at hf
    refine lv_lload hx hb dX11_isOneWay_58 (lv_at hl 0 rfl) ?_
    refine lv_lload hx hb dX11_isOneWay_60 (lv_at hl 5 rfl) ?_
    refine lc_eq (tgt := 68) hx hb dX11_isOneWay_62 dX11_isOneWay_63 (by decide) (fun c8 => ?_) (fun c8 => ?_)
    · rw [if_pos c8] at hf
      refine W.widen (k := 2 * (M.2.2 - c0)) (n := 52 * (M.2.2 - c0)) (by omega) (by omega) ?_
      exact k_X11_isOneWay_68 hC (by omega) hq6 hm6 hf hw (lv_sub hl [1, 2, 3, 4, 6, 0] rfl)
    · rw [if_neg c8] at hf
      refine lv_iconst (v := 0) hx hb dX11_isOneWay_66 (by decide) ?_
      refine W.widen (k := 2 * (z.2.2.2 - c0)) (n := 52 * (z.2.2.2 - c0)) (by omega) (by omega) ?_
      have hz := Option.some.inj hf
      subst hz
      exact rta_z hC hw (Or.inl rfl) dX11_isOneWay_67
set_option maxRecDepth 100000 in
set_option maxHeartbeats 4000000 in
theorem k_X11_isOneWay_6 {p : Program} {l : Launch} {e : Env} {s : State} {m : MethodId} {args : Array Value} {below : List Frame} {meth : Method} {c : Code} {D : va_G} {cy : Nat → ClassId} {z0 : Nat} {ad : Nat → Nat} {X : va_W} {u : Nat × Nat} (hC : cx_C p s m args meth c cX11_isOneWay "RhymedThen" (Cond.code yX11_isOneWay cX11_isOneWay 9 (some .boolean)) 9 (some .boolean)) {z : (Int32 × mm_M)} {c0 : Nat} {x1 : Int32} {x2 : Int32} {x3 : Int32} {x4 : Int64} {x6 : Int32} {M : mm_M} (hc0 : c0 ≤ M.2.2) {q6 : Int32 → Int32 → Int32 → Int64 → Int32 → mm_M → Option (Int32 × mm_M)} (hq6 : ∀ (x1 : Int32) (x2 : Int32) (x3 : Int32) (x4 : Int64) (x6 : Int32) (M : mm_M) (u : Nat × Nat) (H : Heap) (locs : List Loc) (ls : Array Slot), c0 ≤ M.2.2 → q6 x1 x2 x3 x4 x6 M = some z → wd_in cx_T D cy z0 ad u M X s H locs → lv_has ls 9 [(0, .ref (ad 0)), (1, .int x1), (2, .int x2), (3, .int x3), (4, .long x4), (6, .int x6)] → W p l e { frames := 7, cells := 2 * (z.2.2.2 - c0), slots := 52 * (z.2.2.2 - c0), locals := 215 } s m args below meth c H locs (2 * (M.2.2 - c0)) (52 * (M.2.2 - c0)) (MQ below (aq_i cx_T D cy z0 ad X z.1 z.2) args s (2 * (z.2.2.2 - c0)) (52 * (z.2.2.2 - c0)) (fun q => z0 ≤ q)) (F0 m 6 ls [])) (hm6 : ∀ (x1 : Int32) (x2 : Int32) (x3 : Int32) (x4 : Int64) (x6 : Int32) (M : mm_M), q6 x1 x2 x3 x4 x6 M = some z → M.2.2 ≤ z.2.2.2) (hf : f_X11_isOneWay_6 q6 x1 x2 x3 x4 x6 M = some z) {H : Heap} {locs : List Loc} (hw : wd_in cx_T D cy z0 ad u M X s H locs) {ls : Array Slot} (hl : lv_has ls 9 [(0, .ref (ad 0)), (1, .int x1), (2, .int x2), (3, .int x3), (4, .long x4), (6, .int x6)]) : W p l e { frames := 7, cells := 2 * (z.2.2.2 - c0), slots := 52 * (z.2.2.2 - c0), locals := 215 } s m args below meth c H locs (2 * (M.2.2 - c0)) (52 * (M.2.2 - c0)) (MQ below (aq_i cx_T D cy z0 ad X z.1 z.2) args s (2 * (z.2.2.2 - c0)) (52 * (z.2.2.2 - c0)) (fun q => z0 ≤ q)) (F0 m 6 ls []) := by
  have hx := hC.1
  have hb := hC.2.1
  have hmz : M.2.2 ≤ z.2.2.2 := mo_X11_isOneWay_6 hm6 hf
  unfold f_X11_isOneWay_6 at hf
  refine lv_iload hx hb dX11_isOneWay_6 (lv_at hl 5 rfl) ?_
  refine lv_aload_n hx hb dX11_isOneWay_8 rfl (lv_at hl 0 rfl) ?_
  refine rg_p hC hw 0 (Nat.le_of_ble_eq_true rfl) rfl fd_X11_3 wf_X11_35 (q := 14) rfl dX11_isOneWay_9 ?_
  refine rg_i hC hw 14 (Nat.le_of_ble_eq_true rfl) rfl fd_X3_2 wf_X11_144 dX11_isOneWay_12 ?_
  refine lv_icmp_ge (tgt := 78) hx hb dX11_isOneWay_15 (by decide) (fun c1 => ?_) (fun c1 => ?_)
  · rw [if_pos c1] at hf
    refine lv_iconst (v := 1) hx hb dX11_isOneWay_78 (by decide) ?_
    refine W.widen (k := 2 * (z.2.2.2 - c0)) (n := 52 * (z.2.2.2 - c0)) (by omega) (by omega) ?_
    have hz := Option.some.inj hf
    subst hz
    exact rta_z hC hw (Or.inr rfl) dX11_isOneWay_79
  · rw [if_neg c1] at hf
    refine lv_aload_n hx hb dX11_isOneWay_18 rfl (lv_at hl 0 rfl) ?_
    refine rg_p hC hw 0 (Nat.le_of_ble_eq_true rfl) rfl fd_X11_4 wf_X11_44 (q := 19) rfl dX11_isOneWay_19 ?_
    refine lv_iload hx hb dX11_isOneWay_22 (lv_at hl 5 rfl) ?_
    obtain ⟨z2, ez2, hf⟩ := bd_e hf
    refine clc_Vi hC hw (c_X6_fitsTo ez2) hd_X6_fitsTo cw_X11_293 (Nat.le_of_ble_eq_true rfl) rfl rfl (rest := []) hl.1 rfl (Nat.le_of_ble_eq_true rfl) ⟨Nat.le_of_ble_eq_true rfl, Nat.le_of_ble_eq_true rfl⟩ ⟨(show 2 * (M.2.2 - c0) ≤ 2 * (z.2.2.2 - c0) by omega), (show 52 * (M.2.2 - c0) ≤ 52 * (z.2.2.2 - c0) by omega)⟩ rfl dX11_isOneWay_24 (fun H locs hw => ?_)
    refine lv_if_eq (tgt := 72) hx hb dX11_isOneWay_27 (by decide) (fun c3 => ?_) (fun c3 => ?_)
    · rw [if_pos c3] at hf
      refine W.widen (k := 2 * (M.2.2 - c0)) (n := 52 * (M.2.2 - c0)) (by omega) (by omega) ?_
      exact k_X11_isOneWay_72 hC (by omega) hq6 hm6 hf hw (lv_sub hl [0, 1, 2, 3, 4, 5] rfl)
    · rw [if_neg c3] at hf
      refine lv_aload_n hx hb dX11_isOneWay_30 rfl (lv_at hl 0 rfl) ?_
      refine rg_p hC hw 0 (Nat.le_of_ble_eq_true rfl) rfl fd_X11_2 wf_X11_26 (q := 5) rfl dX11_isOneWay_31 ?_
      refine lv_aload_n hx hb dX11_isOneWay_34 rfl (lv_at hl 0 rfl) ?_
      refine rg_p hC hw 0 (Nat.le_of_ble_eq_true rfl) rfl fd_X11_3 wf_X11_35 (q := 14) rfl dX11_isOneWay_35 ?_
      refine lv_iload hx hb dX11_isOneWay_38 (lv_at hl 5 rfl) ?_
      refine lv_iload_n hx hb dX11_isOneWay_40 rfl (lv_at hl 2 rfl) ?_
      refine lv_iload_n hx hb dX11_isOneWay_41 rfl (lv_at hl 3 rfl) ?_
      obtain ⟨z4, ez4, hf⟩ := bd_e hf
      have mz4 : M.2.2 ≤ z4.2.2.2 := mo_X3_courseAt ez4
      have hnz : z4.2.2.2 ≤ z.2.2.2 := mo_X11_isOneWay_45 hm6 hf
      refine cla_Vi hC hw (c_X3_courseAt ez4) hd_X3_courseAt cw_X11_195 (Nat.le_of_ble_eq_true rfl) rfl rfl (rest := [.ref (ad 5)]) hl.1 rfl (Nat.le_of_ble_eq_true rfl) ⟨Nat.le_of_ble_eq_true rfl, Nat.le_of_ble_eq_true rfl⟩ ⟨(show 2 * (M.2.2 - c0) + 2 * (z4.2.2.2 - M.2.2) ≤ 2 * (z.2.2.2 - c0) by omega), (show 52 * (M.2.2 - c0) + 52 * (z4.2.2.2 - M.2.2) ≤ 52 * (z.2.2.2 - c0) by omega)⟩ rfl dX11_isOneWay_42 (fun u H locs hw => ?_)
      refine W.widen (k := 2 * (z4.2.2.2 - c0)) (n := 52 * (z4.2.2.2 - c0)) (by omega) (by omega) ?_
      exact k_X11_isOneWay_45 hC (by omega) hq6 hm6 hf hw (lv_sub hl [0, 1, 2, 3, 4, 5] rfl)
set_option maxRecDepth 100000 in
set_option maxHeartbeats 4000000 in
theorem k_X11_isOneWay_6l {p : Program} {l : Launch} {e : Env} {s : State} {m : MethodId} {args : Array Value} {below : List Frame} {meth : Method} {c : Code} {D : va_G} {cy : Nat → ClassId} {z0 : Nat} {ad : Nat → Nat} {X : va_W} (hC : cx_C p s m args meth c cX11_isOneWay "RhymedThen" (Cond.code yX11_isOneWay cX11_isOneWay 9 (some .boolean)) 9 (some .boolean)) {z : (Int32 × mm_M)} {c0 : Nat} : ∀ (n : Nat) (x1 : Int32) (x2 : Int32) (x3 : Int32) (x4 : Int64) (x6 : Int32) (M : mm_M) (u : Nat × Nat) (H : Heap) (locs : List Loc) (ls : Array Slot), c0 ≤ M.2.2 → f_X11_isOneWay_6l n x1 x2 x3 x4 x6 M = some z → wd_in cx_T D cy z0 ad u M X s H locs → lv_has ls 9 [(0, .ref (ad 0)), (1, .int x1), (2, .int x2), (3, .int x3), (4, .long x4), (6, .int x6)] → W p l e { frames := 7, cells := 2 * (z.2.2.2 - c0), slots := 52 * (z.2.2.2 - c0), locals := 215 } s m args below meth c H locs (2 * (M.2.2 - c0)) (52 * (M.2.2 - c0)) (MQ below (aq_i cx_T D cy z0 ad X z.1 z.2) args s (2 * (z.2.2.2 - c0)) (52 * (z.2.2.2 - c0)) (fun q => z0 ≤ q)) (F0 m 6 ls []) := by
  intro n
  induction n with
  | zero => intro x1 x2 x3 x4 x6 M u H locs ls hc0 hf; exact absurd hf (by simp [f_X11_isOneWay_6l])
  | succ n ih => intro x1 x2 x3 x4 x6 M u H locs ls hc0 hf hw hl; exact k_X11_isOneWay_6 hC hc0 ih (mo_X11_isOneWay_6l n) hf hw hl
set_option maxRecDepth 100000 in
set_option maxHeartbeats 4000000 in
theorem k_X11_isOneWay {p : Program} {l : Launch} {e : Env} {s : State} {m : MethodId} {args : Array Value} {below : List Frame} {meth : Method} {c : Code} {D : va_G} {cy : Nat → ClassId} {z0 : Nat} {ad : Nat → Nat} {X : va_W} {u : Nat × Nat} (hC : cx_C p s m args meth c cX11_isOneWay "RhymedThen" (Cond.code yX11_isOneWay cX11_isOneWay 9 (some .boolean)) 9 (some .boolean)) {z : (Int32 × mm_M)} {c0 : Nat} {x1 : Int32} {x2 : Int32} {x3 : Int32} {M : mm_M} (hc0 : c0 ≤ M.2.2) (hf : f_X11_isOneWay x1 x2 x3 M = some z) {H : Heap} {locs : List Loc} (hw : wd_in cx_T D cy z0 ad u M X s H locs) {ls : Array Slot} (hl : lv_has ls 9 [(0, .ref (ad 0)), (1, .int x1), (2, .int x2), (3, .int x3)]) : W p l e { frames := 7, cells := 2 * (z.2.2.2 - c0), slots := 52 * (z.2.2.2 - c0), locals := 215 } s m args below meth c H locs (2 * (M.2.2 - c0)) (52 * (M.2.2 - c0)) (MQ below (aq_i cx_T D cy z0 ad X z.1 z.2) args s (2 * (z.2.2.2 - c0)) (52 * (z.2.2.2 - c0)) (fun q => z0 ≤ q)) (F0 m 0 ls []) := by
  have hx := hC.1
  have hb := hC.2.1
  have hmz : M.2.2 ≤ z.2.2.2 := mo_X11_isOneWay hf
  unfold f_X11_isOneWay at hf
  refine lv_lconst (v := 0) hx hb dX11_isOneWay_0 (by decide) ?_
  refine lv_lstore (lv' := [(4, .long 0), (0, .ref (ad 0)), (1, .int x1), (2, .int x2), (3, .int x3)]) hx hb dX11_isOneWay_1 hl (by decide) rfl (fun ls hl => ?_)
  refine lv_iconst (v := 0) hx hb dX11_isOneWay_3 (by decide) ?_
  refine lv_istore (lv' := [(6, .int 0), (4, .long 0), (0, .ref (ad 0)), (1, .int x1), (2, .int x2), (3, .int x3)]) hx hb dX11_isOneWay_4 hl (by decide) rfl (fun ls hl => ?_)
  refine W.widen (k := 2 * (M.2.2 - c0)) (n := 52 * (M.2.2 - c0)) (by omega) (by omega) ?_
  exact k_X11_isOneWay_6l hC fu_ _ _ _ _ _ _ _ _ _ _ (by omega) hf hw (lv_sub hl [2, 3, 4, 5, 1, 0] rfl)
set_option maxRecDepth 100000 in
theorem c_X11_isOneWay {l : Launch} {D : va_G} {cy : Nat → ClassId} {z0 : Nat} {ad : Nat → Nat} {u : Nat × Nat} {X : va_W} {z : (Int32 × mm_M)} {x1 : Int32} {x2 : Int32} {x3 : Int32} {M : mm_M} (hf : f_X11_isOneWay x1 x2 x3 M = some z) : ca_i cx_T l yX11_isOneWay (Cond.code yX11_isOneWay cX11_isOneWay 9 (some .boolean)) 7 215 D cy z0 ad u M X [.ref (ad 0), .int x1, .int x2, .int x3] z.1 z.2 := by
  refine bga_i (by decide) (fun p e s m below meth c hC hw => ?_)
  refine en_t (Nat.le_of_ble_eq_true rfl) (fun ls hl => ?_)
  have hl : lv_has ls 9 [(0, .ref (ad 0)), (1, .int x1), (2, .int x2), (3, .int x3)] := hl
  refine W.widen (k := 2 * (M.2.2 - M.2.2)) (n := 52 * (M.2.2 - M.2.2)) (by omega) (by omega) ?_
  exact k_X11_isOneWay hC (Nat.le_refl _) hf hw hl
