set_option maxRecDepth 100000 in
set_option maxHeartbeats 4000000 in
theorem k_X11_settled_58 {p : Program} {l : Launch} {e : Env} {s : State} {m : MethodId} {args : Array Value} {below : List Frame} {meth : Method} {c : Code} {D : va_G} {cy : Nat → ClassId} {z0 : Nat} {ad : Nat → Nat} {X : va_W} {u : Nat × Nat} (hC : cx_C p s m args meth c cX11_settled "RhymedThen" (Cond.code yX11_settled cX11_settled 5 (some .int)) 5 (some .int)) {z : (Int32 × mm_M)} {c0 : Nat} {x1 : Int32} {x2 : Int32} {x3 : Int32} {x4 : Int32} {t0 : Int32} {M : mm_M} (hc0 : c0 ≤ M.2.2) {q45 : Int32 → Int32 → Int32 → Int32 → mm_M → Option (Int32 × mm_M)} (hq45 : ∀ (x1 : Int32) (x2 : Int32) (x3 : Int32) (x4 : Int32) (M : mm_M) (u : Nat × Nat) (H : Heap) (locs : List Loc) (ls : Array Slot), c0 ≤ M.2.2 → q45 x1 x2 x3 x4 M = some z → wd_in cx_T D cy z0 ad u M X s H locs → lv_has ls 5 [(0, .ref (ad 0)), (1, .int x1), (2, .int x2), (3, .int x3), (4, .int x4)] → W p l e { frames := 8, cells := 2 * (z.2.2.2 - c0), slots := 52 * (z.2.2.2 - c0), locals := 243 } s m args below meth c H locs (2 * (M.2.2 - c0)) (52 * (M.2.2 - c0)) (MQ below (aq_i cx_T D cy z0 ad X z.1 z.2) args s (2 * (z.2.2.2 - c0)) (52 * (z.2.2.2 - c0)) (fun q => z0 ≤ q)) (F0 m 45 ls [])) (hm45 : ∀ (x1 : Int32) (x2 : Int32) (x3 : Int32) (x4 : Int32) (M : mm_M), q45 x1 x2 x3 x4 M = some z → M.2.2 ≤ z.2.2.2) (hf : f_X11_settled_58 q45 x1 x2 x3 x4 t0 M = some z) {H : Heap} {locs : List Loc} (hw : wd_in cx_T D cy z0 ad u M X s H locs) {ls : Array Slot} (hl : lv_has ls 5 [(0, .ref (ad 0)), (1, .int x1), (2, .int x2), (3, .int x3), (4, .int x4)]) : W p l e { frames := 8, cells := 2 * (z.2.2.2 - c0), slots := 52 * (z.2.2.2 - c0), locals := 243 } s m args below meth c H locs (2 * (M.2.2 - c0)) (52 * (M.2.2 - c0)) (MQ below (aq_i cx_T D cy z0 ad X z.1 z.2) args s (2 * (z.2.2.2 - c0)) (52 * (z.2.2.2 - c0)) (fun q => z0 ≤ q)) (F0 m 58 ls [.int t0]) := by
  have hx := hC.1
  have hb := hC.2.1
  have hmz : M.2.2 ≤ z.2.2.2 := mo_X11_settled_58 hm45 hf
  unfold f_X11_settled_58 at hf
  refine lv_if_eq (tgt := 70) hx hb dX11_settled_58 (by decide) (fun c10 => ?_) (fun c10 => ?_)
  · rw [if_pos c10] at hf
    refine lv_iload_n hx hb dX11_settled_70 rfl (lv_at hl 3 rfl) ?_
    refine W.widen (k := 2 * (z.2.2.2 - c0)) (n := 52 * (z.2.2.2 - c0)) (by omega) (by omega) ?_
    have hz := Option.some.inj hf
    subst hz
    exact rta_i hC hw dX11_settled_71
  · rw [if_neg c10] at hf
    refine lv_iload hx hb dX11_settled_61 (lv_at hl 4 rfl) ?_
    refine lv_istore_n (lv' := [(3, .int x4), (0, .ref (ad 0)), (1, .int x1), (2, .int x2), (4, .int x4)]) hx hb dX11_settled_63 rfl hl (by decide) rfl (fun ls hl => ?_)
    obtain ⟨y11, ey11, hf⟩ := sq_e hf
    refine lv_iinc (v := y11) (lv' := [(4, .int y11), (3, .int x4), (0, .ref (ad 0)), (1, .int x1), (2, .int x2)]) hx hb dX11_settled_64 hl (k := 4) rfl (by rw [ey11]; rfl) (by decide) rfl (fun ls hl => ?_)
    refine lv_goto (tgt := 45) hx hb dX11_settled_67 (by decide) ?_
    refine W.widen (k := 2 * (M.2.2 - c0)) (n := 52 * (M.2.2 - c0)) (by omega) (by omega) ?_
    exact hq45 _ _ _ _ _ _ _ _ _ (by omega) hf hw (lv_sub hl [2, 3, 4, 1, 0] rfl)
set_option maxRecDepth 100000 in
set_option maxHeartbeats 4000000 in
theorem k_X11_settled_45 {p : Program} {l : Launch} {e : Env} {s : State} {m : MethodId} {args : Array Value} {below : List Frame} {meth : Method} {c : Code} {D : va_G} {cy : Nat → ClassId} {z0 : Nat} {ad : Nat → Nat} {X : va_W} {u : Nat × Nat} (hC : cx_C p s m args meth c cX11_settled "RhymedThen" (Cond.code yX11_settled cX11_settled 5 (some .int)) 5 (some .int)) {z : (Int32 × mm_M)} {c0 : Nat} {x1 : Int32} {x2 : Int32} {x3 : Int32} {x4 : Int32} {M : mm_M} (hc0 : c0 ≤ M.2.2) {q45 : Int32 → Int32 → Int32 → Int32 → mm_M → Option (Int32 × mm_M)} (hq45 : ∀ (x1 : Int32) (x2 : Int32) (x3 : Int32) (x4 : Int32) (M : mm_M) (u : Nat × Nat) (H : Heap) (locs : List Loc) (ls : Array Slot), c0 ≤ M.2.2 → q45 x1 x2 x3 x4 M = some z → wd_in cx_T D cy z0 ad u M X s H locs → lv_has ls 5 [(0, .ref (ad 0)), (1, .int x1), (2, .int x2), (3, .int x3), (4, .int x4)] → W p l e { frames := 8, cells := 2 * (z.2.2.2 - c0), slots := 52 * (z.2.2.2 - c0), locals := 243 } s m args below meth c H locs (2 * (M.2.2 - c0)) (52 * (M.2.2 - c0)) (MQ below (aq_i cx_T D cy z0 ad X z.1 z.2) args s (2 * (z.2.2.2 - c0)) (52 * (z.2.2.2 - c0)) (fun q => z0 ≤ q)) (F0 m 45 ls [])) (hm45 : ∀ (x1 : Int32) (x2 : Int32) (x3 : Int32) (x4 : Int32) (M : mm_M), q45 x1 x2 x3 x4 M = some z → M.2.2 ≤ z.2.2.2) (hf : f_X11_settled_45 q45 x1 x2 x3 x4 M = some z) {H : Heap} {locs : List Loc} (hw : wd_in cx_T D cy z0 ad u M X s H locs) {ls : Array Slot} (hl : lv_has ls 5 [(0, .ref (ad 0)), (1, .int x1), (2, .int x2), (3, .int x3), (4, .int x4)]) : W p l e { frames := 8, cells := 2 * (z.2.2.2 - c0), slots := 52 * (z.2.2.2 - c0), locals := 243 } s m args below meth c H locs (2 * (M.2.2 - c0)) (52 * (M.2.2 - c0)) (MQ below (aq_i cx_T D cy z0 ad X z.1 z.2) args s (2 * (z.2.2.2 - c0)) (52 * (z.2.2.2 - c0)) (fun q => z0 ≤ q)) (F0 m 45 ls []) := by
  have hx := hC.1
  have hb := hC.2.1
  have hmz : M.2.2 ≤ z.2.2.2 := mo_X11_settled_45 hm45 hf
  unfold f_X11_settled_45 at hf
  refine lv_iload hx hb dX11_settled_45 (lv_at hl 4 rfl) ?_
  refine lv_if_lt (tgt := 70) hx hb dX11_settled_47 (by decide) (fun c8 => ?_) (fun c8 => ?_)
  · rw [if_pos c8] at hf
    refine lv_iload_n hx hb dX11_settled_70 rfl (lv_at hl 3 rfl) ?_
    refine W.widen (k := 2 * (z.2.2.2 - c0)) (n := 52 * (z.2.2.2 - c0)) (by omega) (by omega) ?_
    have hz := Option.some.inj hf
    subst hz
    exact rta_i hC hw dX11_settled_71
  · rw [if_neg c8] at hf
    refine lv_aload_n hx hb dX11_settled_50 rfl (lv_at hl 0 rfl) ?_
    refine lv_iload_n hx hb dX11_settled_51 rfl (lv_at hl 1 rfl) ?_
    refine lv_iload hx hb dX11_settled_52 (lv_at hl 4 rfl) ?_
    refine lv_iload_n hx hb dX11_settled_54 rfl (lv_at hl 2 rfl) ?_
    obtain ⟨z9, ez9, hf⟩ := bd_e hf
    have mz9 : M.2.2 ≤ z9.2.2.2 := mo_X11_isOneWay ez9
    have hnz : z9.2.2.2 ≤ z.2.2.2 := mo_X11_settled_58 hm45 hf
    refine cla_Vi hC hw (c_X11_isOneWay ez9) hd_X11_isOneWay cw_X11_427 (Nat.le_of_ble_eq_true rfl) rfl rfl (rest := []) hl.1 rfl (Nat.le_of_ble_eq_true rfl) ⟨Nat.le_of_ble_eq_true rfl, Nat.le_of_ble_eq_true rfl⟩ ⟨(show 2 * (M.2.2 - c0) + 2 * (z9.2.2.2 - M.2.2) ≤ 2 * (z.2.2.2 - c0) by omega), (show 52 * (M.2.2 - c0) + 52 * (z9.2.2.2 - M.2.2) ≤ 52 * (z.2.2.2 - c0) by omega)⟩ rfl dX11_settled_55 (fun u H locs hw => ?_)
    refine W.widen (k := 2 * (z9.2.2.2 - c0)) (n := 52 * (z9.2.2.2 - c0)) (by omega) (by omega) ?_
    exact k_X11_settled_58 hC (by omega) hq45 hm45 hf hw (lv_sub hl [0, 1, 2, 3, 4] rfl)
set_option maxRecDepth 100000 in
set_option maxHeartbeats 4000000 in
theorem k_X11_settled_45l {p : Program} {l : Launch} {e : Env} {s : State} {m : MethodId} {args : Array Value} {below : List Frame} {meth : Method} {c : Code} {D : va_G} {cy : Nat → ClassId} {z0 : Nat} {ad : Nat → Nat} {X : va_W} (hC : cx_C p s m args meth c cX11_settled "RhymedThen" (Cond.code yX11_settled cX11_settled 5 (some .int)) 5 (some .int)) {z : (Int32 × mm_M)} {c0 : Nat} : ∀ (n : Nat) (x1 : Int32) (x2 : Int32) (x3 : Int32) (x4 : Int32) (M : mm_M) (u : Nat × Nat) (H : Heap) (locs : List Loc) (ls : Array Slot), c0 ≤ M.2.2 → f_X11_settled_45l n x1 x2 x3 x4 M = some z → wd_in cx_T D cy z0 ad u M X s H locs → lv_has ls 5 [(0, .ref (ad 0)), (1, .int x1), (2, .int x2), (3, .int x3), (4, .int x4)] → W p l e { frames := 8, cells := 2 * (z.2.2.2 - c0), slots := 52 * (z.2.2.2 - c0), locals := 243 } s m args below meth c H locs (2 * (M.2.2 - c0)) (52 * (M.2.2 - c0)) (MQ below (aq_i cx_T D cy z0 ad X z.1 z.2) args s (2 * (z.2.2.2 - c0)) (52 * (z.2.2.2 - c0)) (fun q => z0 ≤ q)) (F0 m 45 ls []) := by
  intro n
  induction n with
  | zero => intro x1 x2 x3 x4 M u H locs ls hc0 hf; exact absurd hf (by simp [f_X11_settled_45l])
  | succ n ih => intro x1 x2 x3 x4 M u H locs ls hc0 hf hw hl; exact k_X11_settled_45 hC hc0 ih (mo_X11_settled_45l n) hf hw hl
set_option maxRecDepth 100000 in
set_option maxHeartbeats 4000000 in
theorem k_X11_settled_24 {p : Program} {l : Launch} {e : Env} {s : State} {m : MethodId} {args : Array Value} {below : List Frame} {meth : Method} {c : Code} {D : va_G} {cy : Nat → ClassId} {z0 : Nat} {ad : Nat → Nat} {X : va_W} {u : Nat × Nat} (hC : cx_C p s m args meth c cX11_settled "RhymedThen" (Cond.code yX11_settled cX11_settled 5 (some .int)) 5 (some .int)) {z : (Int32 × mm_M)} {c0 : Nat} {x1 : Int32} {x2 : Int32} {M : mm_M} (hc0 : c0 ≤ M.2.2) (hf : f_X11_settled_24 x1 x2 M = some z) {H : Heap} {locs : List Loc} (hw : wd_in cx_T D cy z0 ad u M X s H locs) {ls : Array Slot} (hl : lv_has ls 5 [(0, .ref (ad 0)), (1, .int x1), (2, .int x2)]) : W p l e { frames := 8, cells := 2 * (z.2.2.2 - c0), slots := 52 * (z.2.2.2 - c0), locals := 243 } s m args below meth c H locs (2 * (M.2.2 - c0)) (52 * (M.2.2 - c0)) (MQ below (aq_i cx_T D cy z0 ad X z.1 z.2) args s (2 * (z.2.2.2 - c0)) (52 * (z.2.2.2 - c0)) (fun q => z0 ≤ q)) (F0 m 24 ls []) := by
  have hx := hC.1
  have hb := hC.2.1
  have hmz : M.2.2 ≤ z.2.2.2 := mo_X11_settled_24 hf
  unfold f_X11_settled_24 at hf
  refine lv_aload_n hx hb dX11_settled_24 rfl (lv_at hl 0 rfl) ?_
  refine rg_p hC hw 0 (Nat.le_of_ble_eq_true rfl) rfl fd_X11_4 wf_X11_44 (q := 19) rfl dX11_settled_25 ?_
  obtain ⟨z6, ez6, hf⟩ := bd_e hf
  refine clc_Vi hC hw (c_X6_fitCount ez6) hd_X6_fitCount cw_X11_358 (Nat.le_of_ble_eq_true rfl) rfl rfl (rest := []) hl.1 rfl (Nat.le_of_ble_eq_true rfl) ⟨Nat.le_of_ble_eq_true rfl, Nat.le_of_ble_eq_true rfl⟩ ⟨(show 2 * (M.2.2 - c0) ≤ 2 * (z.2.2.2 - c0) by omega), (show 52 * (M.2.2 - c0) ≤ 52 * (z.2.2.2 - c0) by omega)⟩ rfl dX11_settled_28 (fun H locs hw => ?_)
  refine lv_if_ne (tgt := 37) hx hb dX11_settled_31 (by decide) (fun c7 => ?_) (fun c7 => ?_)
  · rw [if_neg c7] at hf
    refine lv_bipush (v := (-2)) hx hb dX11_settled_37 (by decide) ?_
    refine lv_istore_n (lv' := [(3, .int (-2)), (0, .ref (ad 0)), (1, .int x1), (2, .int x2)]) hx hb dX11_settled_39 rfl hl (by decide) rfl (fun ls hl => ?_)
    refine lv_sipush (v := 600) hx hb dX11_settled_40 (by decide) ?_
    refine lv_istore (lv' := [(4, .int 600), (3, .int (-2)), (0, .ref (ad 0)), (1, .int x1), (2, .int x2)]) hx hb dX11_settled_43 hl (by decide) rfl (fun ls hl => ?_)
    refine W.widen (k := 2 * (M.2.2 - c0)) (n := 52 * (M.2.2 - c0)) (by omega) (by omega) ?_
    exact k_X11_settled_45l hC fu_ _ _ _ _ _ _ _ _ _ (by omega) hf hw (lv_sub hl [2, 3, 4, 1, 0] rfl)
  · rw [if_pos c7] at hf
    refine lv_bipush (v := (-2)) hx hb dX11_settled_34 (by decide) ?_
    refine W.widen (k := 2 * (z.2.2.2 - c0)) (n := 52 * (z.2.2.2 - c0)) (by omega) (by omega) ?_
    have hz := Option.some.inj hf
    subst hz
    exact rta_i hC hw dX11_settled_36
set_option maxRecDepth 100000 in
set_option maxHeartbeats 4000000 in
theorem k_X11_settled {p : Program} {l : Launch} {e : Env} {s : State} {m : MethodId} {args : Array Value} {below : List Frame} {meth : Method} {c : Code} {D : va_G} {cy : Nat → ClassId} {z0 : Nat} {ad : Nat → Nat} {X : va_W} {u : Nat × Nat} (hC : cx_C p s m args meth c cX11_settled "RhymedThen" (Cond.code yX11_settled cX11_settled 5 (some .int)) 5 (some .int)) {z : (Int32 × mm_M)} {c0 : Nat} {x1 : Int32} {x2 : Int32} {M : mm_M} (hc0 : c0 ≤ M.2.2) (hf : f_X11_settled x1 x2 M = some z) {H : Heap} {locs : List Loc} (hw : wd_in cx_T D cy z0 ad u M X s H locs) {ls : Array Slot} (hl : lv_has ls 5 [(0, .ref (ad 0)), (1, .int x1), (2, .int x2)]) : W p l e { frames := 8, cells := 2 * (z.2.2.2 - c0), slots := 52 * (z.2.2.2 - c0), locals := 243 } s m args below meth c H locs (2 * (M.2.2 - c0)) (52 * (M.2.2 - c0)) (MQ below (aq_i cx_T D cy z0 ad X z.1 z.2) args s (2 * (z.2.2.2 - c0)) (52 * (z.2.2.2 - c0)) (fun q => z0 ≤ q)) (F0 m 0 ls []) := by
  have hx := hC.1
  have hb := hC.2.1
  have hmz : M.2.2 ≤ z.2.2.2 := mo_X11_settled hf
  unfold f_X11_settled at hf
  refine lv_aload_n hx hb dX11_settled_0 rfl (lv_at hl 0 rfl) ?_
  refine lv_iload_n hx hb dX11_settled_1 rfl (lv_at hl 1 rfl) ?_
  obtain ⟨z1, ez1, hf⟩ := sq_e hf
  refine clc_Vi hC hw (c_X11_isWord ez1.symm) hd_X11_isWord cw_X11_185 (Nat.le_of_ble_eq_true rfl) rfl rfl (rest := []) hl.1 rfl (Nat.le_of_ble_eq_true rfl) ⟨Nat.le_of_ble_eq_true rfl, Nat.le_of_ble_eq_true rfl⟩ ⟨(show 2 * (M.2.2 - c0) ≤ 2 * (z.2.2.2 - c0) by omega), (show 52 * (M.2.2 - c0) ≤ 52 * (z.2.2.2 - c0) by omega)⟩ rfl dX11_settled_2 (fun H locs hw => ?_)
  refine lv_if_eq (tgt := 15) hx hb dX11_settled_5 (by decide) (fun c2 => ?_) (fun c2 => ?_)
  · rw [if_pos c2] at hf
    refine lv_iconst (v := (-1)) hx hb dX11_settled_15 (by decide) ?_
    refine W.widen (k := 2 * (z.2.2.2 - c0)) (n := 52 * (z.2.2.2 - c0)) (by omega) (by omega) ?_
    have hz := Option.some.inj hf
    subst hz
    exact rta_i hC hw dX11_settled_16
  · rw [if_neg c2] at hf
    refine lv_iload_n hx hb dX11_settled_8 rfl (lv_at hl 2 rfl) ?_
    obtain ⟨z3, ez3, hf⟩ := sq_e hf
    refine clc_Si hC hw (c_X11_isPlace ez3.symm) hd_X11_isPlace cw_X11_163 (rest := []) hl.1 rfl (Nat.le_of_ble_eq_true rfl) ⟨Nat.le_of_ble_eq_true rfl, Nat.le_of_ble_eq_true rfl⟩ ⟨(show 2 * (M.2.2 - c0) ≤ 2 * (z.2.2.2 - c0) by omega), (show 52 * (M.2.2 - c0) ≤ 52 * (z.2.2.2 - c0) by omega)⟩ rfl dX11_settled_9 (fun H locs hw => ?_)
    refine lv_if_ne (tgt := 17) hx hb dX11_settled_12 (by decide) (fun c4 => ?_) (fun c4 => ?_)
    · rw [if_neg c4] at hf
      refine lv_aload_n hx hb dX11_settled_17 rfl (lv_at hl 0 rfl) ?_
      refine rg_p hC hw 0 (Nat.le_of_ble_eq_true rfl) rfl fd_X11_4 wf_X11_44 (q := 19) rfl dX11_settled_18 ?_
      obtain ⟨z5, ez5, hf⟩ := bd_e hf
      have mz5 : M.2.2 ≤ z5.2.2 := mo_X6_lookAnew ez5
      have hnz : z5.2.2 ≤ z.2.2.2 := mo_X11_settled_24 hf
      refine cla_Vv hC hw (c_X6_lookAnew ez5) hd_X6_lookAnew cw_X11_286 (Nat.le_of_ble_eq_true rfl) rfl rfl (rest := []) hl.1 rfl (Nat.le_of_ble_eq_true rfl) ⟨Nat.le_of_ble_eq_true rfl, Nat.le_of_ble_eq_true rfl⟩ ⟨(show 2 * (M.2.2 - c0) + 2 * (z5.2.2 - M.2.2) ≤ 2 * (z.2.2.2 - c0) by omega), (show 52 * (M.2.2 - c0) + 52 * (z5.2.2 - M.2.2) ≤ 52 * (z.2.2.2 - c0) by omega)⟩ rfl dX11_settled_21 (fun u H locs hw => ?_)
      refine W.widen (k := 2 * (z5.2.2 - c0)) (n := 52 * (z5.2.2 - c0)) (by omega) (by omega) ?_
      exact k_X11_settled_24 hC (by omega) hf hw (lv_sub hl [0, 1, 2] rfl)
    · rw [if_pos c4] at hf
      refine lv_iconst (v := (-1)) hx hb dX11_settled_15 (by decide) ?_
      refine W.widen (k := 2 * (z.2.2.2 - c0)) (n := 52 * (z.2.2.2 - c0)) (by omega) (by omega) ?_
      have hz := Option.some.inj hf
      subst hz
      exact rta_i hC hw dX11_settled_16
set_option maxRecDepth 100000 in
theorem c_X11_settled {l : Launch} {D : va_G} {cy : Nat → ClassId} {z0 : Nat} {ad : Nat → Nat} {u : Nat × Nat} {X : va_W} {z : (Int32 × mm_M)} {x1 : Int32} {x2 : Int32} {M : mm_M} (hf : f_X11_settled x1 x2 M = some z) : ca_i cx_T l yX11_settled (Cond.code yX11_settled cX11_settled 5 (some .int)) 8 243 D cy z0 ad u M X [.ref (ad 0), .int x1, .int x2] z.1 z.2 := by
  refine bga_i (by decide) (fun p e s m below meth c hC hw => ?_)
  refine en_t (Nat.le_of_ble_eq_true rfl) (fun ls hl => ?_)
  have hl : lv_has ls 5 [(0, .ref (ad 0)), (1, .int x1), (2, .int x2)] := hl
  refine W.widen (k := 2 * (M.2.2 - M.2.2)) (n := 52 * (M.2.2 - M.2.2)) (by omega) (by omega) ?_
  exact k_X11_settled hC (Nat.le_refl _) hf hw hl
set_option maxRecDepth 100000 in
set_option maxHeartbeats 4000000 in
theorem k_X9_saidLike_40 {p : Program} {l : Launch} {e : Env} {s : State} {m : MethodId} {args : Array Value} {below : List Frame} {meth : Method} {c : Code} {D : va_G} {cy : Nat → ClassId} {z0 : Nat} {ad : Nat → Nat} {X : va_W} {u : Nat × Nat} (hC : cx_C p s m args meth c cX9_saidLike "RhymedThen$Tongue" (Cond.code yX9_saidLike cX9_saidLike 5 (some .int)) 5 (some .int)) {z : Int32} {x1 : Int32} {x2 : Int32} {x4 : Int32} {t0 : Int32} {t1 : Int32} {M : mm_M} {q5 : Int32 → Int32 → Int32 → Int32 → Option Int32} (hq5 : ∀ (x1 : Int32) (x2 : Int32) (x3 : Int32) (x4 : Int32) (H : Heap) (locs : List Loc) (ls : Array Slot), q5 x1 x2 x3 x4 = some z → wd_in cx_T D cy z0 ad u M X s H locs → lv_has ls 5 [(0, .ref (ad 5)), (1, .int x1), (2, .int x2), (3, .int x3), (4, .int x4)] → W p l e { frames := 1, cells := 0, slots := 0, locals := 22 } s m args below meth c H locs 0 0 (MQ below (cq_i cx_T D cy z0 ad u X z M) args s 0 0 (fun q => z0 ≤ q)) (F0 m 5 ls [])) (hf : f_X9_saidLike_40 q5 x1 x2 x4 t0 t1 M = some z) {H : Heap} {locs : List Loc} (hw : wd_in cx_T D cy z0 ad u M X s H locs) {ls : Array Slot} (hl : lv_has ls 5 [(0, .ref (ad 5)), (1, .int x1), (2, .int x2), (4, .int x4)]) : W p l e { frames := 1, cells := 0, slots := 0, locals := 22 } s m args below meth c H locs 0 0 (MQ below (cq_i cx_T D cy z0 ad u X z M) args s 0 0 (fun q => z0 ≤ q)) (F0 m 40 ls [.int t1, .int t0]) := by
  have hx := hC.1
  have hb := hC.2.1
  unfold f_X9_saidLike_40 at hf
  refine lv_ior hx hb dX9_saidLike_40 ?_
  obtain ⟨y5, ey5, hf⟩ := sq_e hf
  refine lt_i ey5 ?_
  refine lv_istore_n (lv' := [(3, .int y5), (0, .ref (ad 5)), (1, .int x1), (2, .int x2), (4, .int x4)]) hx hb dX9_saidLike_41 rfl hl (by decide) rfl (fun ls hl => ?_)
  obtain ⟨y6, ey6, hf⟩ := sq_e hf
  refine lv_iinc (v := y6) (lv' := [(4, .int y6), (3, .int y5), (0, .ref (ad 5)), (1, .int x1), (2, .int x2)]) hx hb dX9_saidLike_42 hl (k := 4) rfl (by rw [ey6]; rfl) (by decide) rfl (fun ls hl => ?_)
  refine lv_goto (tgt := 5) hx hb dX9_saidLike_45 (by decide) ?_
  exact hq5 _ _ _ _ _ _ _ hf hw (lv_sub hl [2, 3, 4, 1, 0] rfl)
set_option maxRecDepth 100000 in
set_option maxHeartbeats 4000000 in
theorem k_X9_saidLike_5 {p : Program} {l : Launch} {e : Env} {s : State} {m : MethodId} {args : Array Value} {below : List Frame} {meth : Method} {c : Code} {D : va_G} {cy : Nat → ClassId} {z0 : Nat} {ad : Nat → Nat} {X : va_W} {u : Nat × Nat} (hC : cx_C p s m args meth c cX9_saidLike "RhymedThen$Tongue" (Cond.code yX9_saidLike cX9_saidLike 5 (some .int)) 5 (some .int)) {z : Int32} {x1 : Int32} {x2 : Int32} {x3 : Int32} {x4 : Int32} {M : mm_M} {q5 : Int32 → Int32 → Int32 → Int32 → Option Int32} (hq5 : ∀ (x1 : Int32) (x2 : Int32) (x3 : Int32) (x4 : Int32) (H : Heap) (locs : List Loc) (ls : Array Slot), q5 x1 x2 x3 x4 = some z → wd_in cx_T D cy z0 ad u M X s H locs → lv_has ls 5 [(0, .ref (ad 5)), (1, .int x1), (2, .int x2), (3, .int x3), (4, .int x4)] → W p l e { frames := 1, cells := 0, slots := 0, locals := 22 } s m args below meth c H locs 0 0 (MQ below (cq_i cx_T D cy z0 ad u X z M) args s 0 0 (fun q => z0 ≤ q)) (F0 m 5 ls [])) (hf : f_X9_saidLike_5 q5 x1 x2 x3 x4 M = some z) {H : Heap} {locs : List Loc} (hw : wd_in cx_T D cy z0 ad u M X s H locs) {ls : Array Slot} (hl : lv_has ls 5 [(0, .ref (ad 5)), (1, .int x1), (2, .int x2), (3, .int x3), (4, .int x4)]) : W p l e { frames := 1, cells := 0, slots := 0, locals := 22 } s m args below meth c H locs 0 0 (MQ below (cq_i cx_T D cy z0 ad u X z M) args s 0 0 (fun q => z0 ≤ q)) (F0 m 5 ls []) := by
  have hx := hC.1
  have hb := hC.2.1
  unfold f_X9_saidLike_5 at hf
  refine lv_iload hx hb dX9_saidLike_5 (lv_at hl 4 rfl) ?_
  refine lv_aload_n hx hb dX9_saidLike_7 rfl (lv_at hl 0 rfl) ?_
  refine rg_i hC hw 5 (Nat.le_of_ble_eq_true rfl) rfl fd_X9_2 wf_X9_21 dX9_saidLike_8 ?_
  refine lv_icmp_ge (tgt := 48) hx hb dX9_saidLike_11 (by decide) (fun c1 => ?_) (fun c1 => ?_)
  · rw [if_pos c1] at hf
    refine lv_iload_n hx hb dX9_saidLike_48 rfl (lv_at hl 3 rfl) ?_
    have hz := Option.some.inj hf
    subst hz
    exact rtc_i hC hw dX9_saidLike_49
  · rw [if_neg c1] at hf
    refine lv_iload_n hx hb dX9_saidLike_14 rfl (lv_at hl 3 rfl) ?_
    refine lv_aload_n hx hb dX9_saidLike_15 rfl (lv_at hl 0 rfl) ?_
    refine lv_iload_n hx hb dX9_saidLike_16 rfl (lv_at hl 1 rfl) ?_
    refine lv_iload hx hb dX9_saidLike_17 (lv_at hl 4 rfl) ?_
    obtain ⟨z2, ez2, hf⟩ := bd_e hf
    refine clc_Vl hC hw (c_X9_formOn ez2) hd_X9_formOn cw_X9_62 (Nat.le_of_ble_eq_true rfl) rfl rfl (rest := [.int x3]) hl.1 rfl (Nat.le_of_ble_eq_true rfl) ⟨Nat.le_of_ble_eq_true rfl, Nat.le_of_ble_eq_true rfl⟩ ⟨Nat.zero_le _, Nat.zero_le _⟩ rfl dX9_saidLike_19 (fun H locs hw => ?_)
    refine lv_aload_n hx hb dX9_saidLike_22 rfl (lv_at hl 0 rfl) ?_
    refine lv_iload_n hx hb dX9_saidLike_23 rfl (lv_at hl 1 rfl) ?_
    refine lv_iload_n hx hb dX9_saidLike_24 rfl (lv_at hl 2 rfl) ?_
    obtain ⟨z3, ez3, hf⟩ := bd_e hf
    refine clc_Vl hC hw (c_X9_formOn ez3) hd_X9_formOn cw_X9_62 (Nat.le_of_ble_eq_true rfl) rfl rfl (rest := [.long z2, .int x3]) hl.1 rfl (Nat.le_of_ble_eq_true rfl) ⟨Nat.le_of_ble_eq_true rfl, Nat.le_of_ble_eq_true rfl⟩ ⟨Nat.zero_le _, Nat.zero_le _⟩ rfl dX9_saidLike_25 (fun H locs hw => ?_)
    refine lc_ne (tgt := 39) hx hb dX9_saidLike_28 dX9_saidLike_29 (by decide) (fun c4 => ?_) (fun c4 => ?_)
    · rw [if_neg c4] at hf
      refine lv_iconst (v := 0) hx hb dX9_saidLike_39 (by decide) ?_
      exact k_X9_saidLike_40 hC hq5 hf hw (lv_sub hl [0, 1, 2, 4] rfl)
    · rw [if_pos c4] at hf
      refine lv_iconst (v := 1) hx hb dX9_saidLike_32 (by decide) ?_
      refine lv_iload hx hb dX9_saidLike_33 (lv_at hl 4 rfl) ?_
      refine lv_ishl hx hb dX9_saidLike_35 ?_
      refine lv_goto (tgt := 40) hx hb dX9_saidLike_36 (by decide) ?_
      exact k_X9_saidLike_40 hC hq5 hf hw (lv_sub hl [0, 1, 2, 4] rfl)
set_option maxRecDepth 100000 in
set_option maxHeartbeats 4000000 in
theorem k_X9_saidLike_5l {p : Program} {l : Launch} {e : Env} {s : State} {m : MethodId} {args : Array Value} {below : List Frame} {meth : Method} {c : Code} {D : va_G} {cy : Nat → ClassId} {z0 : Nat} {ad : Nat → Nat} {X : va_W} {u : Nat × Nat} (hC : cx_C p s m args meth c cX9_saidLike "RhymedThen$Tongue" (Cond.code yX9_saidLike cX9_saidLike 5 (some .int)) 5 (some .int)) {z : Int32} {M : mm_M} : ∀ (n : Nat) (x1 : Int32) (x2 : Int32) (x3 : Int32) (x4 : Int32) (H : Heap) (locs : List Loc) (ls : Array Slot), f_X9_saidLike_5l M n x1 x2 x3 x4 = some z → wd_in cx_T D cy z0 ad u M X s H locs → lv_has ls 5 [(0, .ref (ad 5)), (1, .int x1), (2, .int x2), (3, .int x3), (4, .int x4)] → W p l e { frames := 1, cells := 0, slots := 0, locals := 22 } s m args below meth c H locs 0 0 (MQ below (cq_i cx_T D cy z0 ad u X z M) args s 0 0 (fun q => z0 ≤ q)) (F0 m 5 ls []) := by
  intro n
  induction n with
  | zero => intro x1 x2 x3 x4 H locs ls hf; exact absurd hf (by simp [f_X9_saidLike_5l])
  | succ n ih => intro x1 x2 x3 x4 H locs ls hf hw hl; exact k_X9_saidLike_5 hC ih hf hw hl
set_option maxRecDepth 100000 in
set_option maxHeartbeats 4000000 in
theorem k_X9_saidLike {p : Program} {l : Launch} {e : Env} {s : State} {m : MethodId} {args : Array Value} {below : List Frame} {meth : Method} {c : Code} {D : va_G} {cy : Nat → ClassId} {z0 : Nat} {ad : Nat → Nat} {X : va_W} {u : Nat × Nat} (hC : cx_C p s m args meth c cX9_saidLike "RhymedThen$Tongue" (Cond.code yX9_saidLike cX9_saidLike 5 (some .int)) 5 (some .int)) {z : Int32} {x1 : Int32} {x2 : Int32} {M : mm_M} (hf : f_X9_saidLike x1 x2 M = some z) {H : Heap} {locs : List Loc} (hw : wd_in cx_T D cy z0 ad u M X s H locs) {ls : Array Slot} (hl : lv_has ls 5 [(0, .ref (ad 5)), (1, .int x1), (2, .int x2)]) : W p l e { frames := 1, cells := 0, slots := 0, locals := 22 } s m args below meth c H locs 0 0 (MQ below (cq_i cx_T D cy z0 ad u X z M) args s 0 0 (fun q => z0 ≤ q)) (F0 m 0 ls []) := by
  have hx := hC.1
  have hb := hC.2.1
  unfold f_X9_saidLike at hf
  refine lv_iconst (v := 0) hx hb dX9_saidLike_0 (by decide) ?_
  refine lv_istore_n (lv' := [(3, .int 0), (0, .ref (ad 5)), (1, .int x1), (2, .int x2)]) hx hb dX9_saidLike_1 rfl hl (by decide) rfl (fun ls hl => ?_)
  refine lv_iconst (v := 0) hx hb dX9_saidLike_2 (by decide) ?_
  refine lv_istore (lv' := [(4, .int 0), (3, .int 0), (0, .ref (ad 5)), (1, .int x1), (2, .int x2)]) hx hb dX9_saidLike_3 hl (by decide) rfl (fun ls hl => ?_)
  exact k_X9_saidLike_5l hC fu_ _ _ _ _ _ _ _ hf hw (lv_sub hl [2, 3, 4, 1, 0] rfl)
set_option maxRecDepth 100000 in
theorem c_X9_saidLike {l : Launch} {D : va_G} {cy : Nat → ClassId} {z0 : Nat} {ad : Nat → Nat} {u : Nat × Nat} {X : va_W} {z : Int32} {x1 : Int32} {x2 : Int32} {M : mm_M} (hf : f_X9_saidLike x1 x2 M = some z) : ct_i cx_T l yX9_saidLike (Cond.code yX9_saidLike cX9_saidLike 5 (some .int)) 1 22 D cy z0 ad u M X [.ref (ad 5), .int x1, .int x2] z M := by
  refine bgc_i (by decide) (fun p e s m below meth c hC hw => ?_)
  refine en_t (Nat.le_of_ble_eq_true rfl) (fun ls hl => ?_)
  have hl : lv_has ls 5 [(0, .ref (ad 5)), (1, .int x1), (2, .int x2)] := hl
  exact k_X9_saidLike hC hf hw hl
set_option maxRecDepth 100000 in
set_option maxHeartbeats 4000000 in
theorem k_X11_fell_87 {p : Program} {l : Launch} {e : Env} {s : State} {m : MethodId} {args : Array Value} {below : List Frame} {meth : Method} {c : Code} {D : va_G} {cy : Nat → ClassId} {z0 : Nat} {ad : Nat → Nat} {X : va_W} {u : Nat × Nat} (hC : cx_C p s m args meth c cX11_fell "RhymedThen" (Cond.code yX11_fell cX11_fell 8 (some .int)) 8 (some .int)) {z : (Int32 × mm_M)} {c0 : Nat} {x4 : Int32} {x6 : Int32} {t0 : Int32} {M : mm_M} (hc0 : c0 ≤ M.2.2) {q42 : Int32 → Int32 → Int32 → mm_M → Option (Int32 × mm_M)} (hq42 : ∀ (x4 : Int32) (x5 : Int32) (x6 : Int32) (M : mm_M) (u : Nat × Nat) (H : Heap) (locs : List Loc) (ls : Array Slot), c0 ≤ M.2.2 → q42 x4 x5 x6 M = some z → wd_in cx_T D cy z0 ad u M X s H locs → lv_has ls 8 [(0, .ref (ad 0)), (4, .int x4), (5, .int x5), (6, .int x6)] → W p l e { frames := 7, cells := 2 * (z.2.2.2 - c0), slots := 52 * (z.2.2.2 - c0), locals := 215 } s m args below meth c H locs (2 * (M.2.2 - c0)) (52 * (M.2.2 - c0)) (MQ below (aq_i cx_T D cy z0 ad X z.1 z.2) args s (2 * (z.2.2.2 - c0)) (52 * (z.2.2.2 - c0)) (fun q => z0 ≤ q)) (F0 m 42 ls [])) (hm42 : ∀ (x4 : Int32) (x5 : Int32) (x6 : Int32) (M : mm_M), q42 x4 x5 x6 M = some z → M.2.2 ≤ z.2.2.2) (hf : f_X11_fell_87 q42 x4 x6 t0 M = some z) {H : Heap} {locs : List Loc} (hw : wd_in cx_T D cy z0 ad u M X s H locs) {ls : Array Slot} (hl : lv_has ls 8 [(0, .ref (ad 0)), (4, .int x4), (6, .int x6)]) : W p l e { frames := 7, cells := 2 * (z.2.2.2 - c0), slots := 52 * (z.2.2.2 - c0), locals := 215 } s m args below meth c H locs (2 * (M.2.2 - c0)) (52 * (M.2.2 - c0)) (MQ below (aq_i cx_T D cy z0 ad X z.1 z.2) args s (2 * (z.2.2.2 - c0)) (52 * (z.2.2.2 - c0)) (fun q => z0 ≤ q)) (F0 m 87 ls [.int t0]) := by
  have hx := hC.1
  have hb := hC.2.1
  have hmz : M.2.2 ≤ z.2.2.2 := mo_X11_fell_87 hm42 hf
  unfold f_X11_fell_87 at hf
  refine lv_istore (lv' := [(5, .int t0), (0, .ref (ad 0)), (4, .int x4), (6, .int x6)]) hx hb dX11_fell_87 hl (by decide) rfl (fun ls hl => ?_)
  obtain ⟨y13, ey13, hf⟩ := sq_e hf
  refine lv_iinc (v := y13) (lv' := [(6, .int y13), (5, .int t0), (0, .ref (ad 0)), (4, .int x4)]) hx hb dX11_fell_89 hl (k := 3) rfl (by rw [ey13]; rfl) (by decide) rfl (fun ls hl => ?_)
  refine lv_goto (tgt := 42) hx hb dX11_fell_92 (by decide) ?_
  refine W.widen (k := 2 * (M.2.2 - c0)) (n := 52 * (M.2.2 - c0)) (by omega) (by omega) ?_
  exact hq42 _ _ _ _ _ _ _ _ (by omega) hf hw (lv_sub hl [2, 3, 1, 0] rfl)
set_option maxRecDepth 100000 in
set_option maxHeartbeats 4000000 in
theorem k_X11_fell_95 {p : Program} {l : Launch} {e : Env} {s : State} {m : MethodId} {args : Array Value} {below : List Frame} {meth : Method} {c : Code} {D : va_G} {cy : Nat → ClassId} {z0 : Nat} {ad : Nat → Nat} {X : va_W} {u : Nat × Nat} (hC : cx_C p s m args meth c cX11_fell "RhymedThen" (Cond.code yX11_fell cX11_fell 8 (some .int)) 8 (some .int)) {z : (Int32 × mm_M)} {c0 : Nat} {x5 : Int32} {M : mm_M} (hc0 : c0 ≤ M.2.2) (hf : f_X11_fell_95 x5 M = some z) {H : Heap} {locs : List Loc} (hw : wd_in cx_T D cy z0 ad u M X s H locs) {ls : Array Slot} (hl : lv_has ls 8 [(0, .ref (ad 0)), (5, .int x5)]) : W p l e { frames := 7, cells := 2 * (z.2.2.2 - c0), slots := 52 * (z.2.2.2 - c0), locals := 215 } s m args below meth c H locs (2 * (M.2.2 - c0)) (52 * (M.2.2 - c0)) (MQ below (aq_i cx_T D cy z0 ad X z.1 z.2) args s (2 * (z.2.2.2 - c0)) (52 * (z.2.2.2 - c0)) (fun q => z0 ≤ q)) (F0 m 95 ls []) := by
  have hx := hC.1
  have hb := hC.2.1
  have hmz : M.2.2 ≤ z.2.2.2 := mo_X11_fell_95 hf
  unfold f_X11_fell_95 at hf
  refine lv_aload_n hx hb dX11_fell_95 rfl (lv_at hl 0 rfl) ?_
  refine rg_p hC hw 0 (Nat.le_of_ble_eq_true rfl) rfl fd_X11_1 wf_X11_19 (q := 3) rfl dX11_fell_96 ?_
  obtain ⟨z10, ez10, hf⟩ := sq_e hf
  have mz10 : M.2.2 ≤ z10.2.2 := mo_X4_clear ez10.symm
  refine clc_Vv hC hw (c_X4_clear ez10.symm) hd_X4_clear cw_X11_192 (Nat.le_of_ble_eq_true rfl) rfl rfl (rest := []) hl.1 rfl (Nat.le_of_ble_eq_true rfl) ⟨Nat.le_of_ble_eq_true rfl, Nat.le_of_ble_eq_true rfl⟩ ⟨(show 2 * (M.2.2 - c0) ≤ 2 * (z.2.2.2 - c0) by omega), (show 52 * (M.2.2 - c0) ≤ 52 * (z.2.2.2 - c0) by omega)⟩ rfl dX11_fell_99 (fun H locs hw => ?_)
  refine lv_aload_n hx hb dX11_fell_102 rfl (lv_at hl 0 rfl) ?_
  refine rg_p hC hw 0 (Nat.le_of_ble_eq_true rfl) rfl fd_X11_1 wf_X11_19 (q := 3) rfl dX11_fell_103 ?_
  refine lv_iload hx hb dX11_fell_106 (lv_at hl 1 rfl) ?_
  refine lv_i2l hx hb dX11_fell_108 rfl ?_
  obtain ⟨z11, ez11, hf⟩ := bd_e hf
  have mz11 : z10.2.2 ≤ z11.2.2 := mo_X4_add ez11
  refine clc_Vv hC hw (c_X4_add ez11) hd_X4_add cw_X11_214 (Nat.le_of_ble_eq_true rfl) rfl rfl (rest := []) hl.1 rfl (Nat.le_of_ble_eq_true rfl) ⟨Nat.le_of_ble_eq_true rfl, Nat.le_of_ble_eq_true rfl⟩ ⟨(show 2 * (M.2.2 - c0) ≤ 2 * (z.2.2.2 - c0) by omega), (show 52 * (M.2.2 - c0) ≤ 52 * (z.2.2.2 - c0) by omega)⟩ rfl dX11_fell_109 (fun H locs hw => ?_)
  refine lv_iload hx hb dX11_fell_112 (lv_at hl 1 rfl) ?_
  obtain ⟨z12, ez12, hf⟩ := sq_e hf
  refine clc_Si hC hw (c_J6_bitCount_0f7a4 ez12.symm) hd_J6_bitCount_0f7a4 cw_X11_308 (rest := []) hl.1 rfl (Nat.le_of_ble_eq_true rfl) ⟨Nat.le_of_ble_eq_true rfl, Nat.le_of_ble_eq_true rfl⟩ ⟨(show 2 * (M.2.2 - c0) ≤ 2 * (z.2.2.2 - c0) by omega), (show 52 * (M.2.2 - c0) ≤ 52 * (z.2.2.2 - c0) by omega)⟩ rfl dX11_fell_114 (fun H locs hw => ?_)
  refine W.widen (k := 2 * (z.2.2.2 - c0)) (n := 52 * (z.2.2.2 - c0)) (by omega) (by omega) ?_
  have hz := Option.some.inj hf
  subst hz
  exact rta_i hC hw dX11_fell_117
set_option maxRecDepth 100000 in
set_option maxHeartbeats 4000000 in
theorem k_X11_fell_42 {p : Program} {l : Launch} {e : Env} {s : State} {m : MethodId} {args : Array Value} {below : List Frame} {meth : Method} {c : Code} {D : va_G} {cy : Nat → ClassId} {z0 : Nat} {ad : Nat → Nat} {X : va_W} {u : Nat × Nat} (hC : cx_C p s m args meth c cX11_fell "RhymedThen" (Cond.code yX11_fell cX11_fell 8 (some .int)) 8 (some .int)) {z : (Int32 × mm_M)} {c0 : Nat} {x4 : Int32} {x5 : Int32} {x6 : Int32} {M : mm_M} (hc0 : c0 ≤ M.2.2) {q42 : Int32 → Int32 → Int32 → mm_M → Option (Int32 × mm_M)} (hq42 : ∀ (x4 : Int32) (x5 : Int32) (x6 : Int32) (M : mm_M) (u : Nat × Nat) (H : Heap) (locs : List Loc) (ls : Array Slot), c0 ≤ M.2.2 → q42 x4 x5 x6 M = some z → wd_in cx_T D cy z0 ad u M X s H locs → lv_has ls 8 [(0, .ref (ad 0)), (4, .int x4), (5, .int x5), (6, .int x6)] → W p l e { frames := 7, cells := 2 * (z.2.2.2 - c0), slots := 52 * (z.2.2.2 - c0), locals := 215 } s m args below meth c H locs (2 * (M.2.2 - c0)) (52 * (M.2.2 - c0)) (MQ below (aq_i cx_T D cy z0 ad X z.1 z.2) args s (2 * (z.2.2.2 - c0)) (52 * (z.2.2.2 - c0)) (fun q => z0 ≤ q)) (F0 m 42 ls [])) (hm42 : ∀ (x4 : Int32) (x5 : Int32) (x6 : Int32) (M : mm_M), q42 x4 x5 x6 M = some z → M.2.2 ≤ z.2.2.2) (hf : f_X11_fell_42 q42 x4 x5 x6 M = some z) {H : Heap} {locs : List Loc} (hw : wd_in cx_T D cy z0 ad u M X s H locs) {ls : Array Slot} (hl : lv_has ls 8 [(0, .ref (ad 0)), (4, .int x4), (5, .int x5), (6, .int x6)]) : W p l e { frames := 7, cells := 2 * (z.2.2.2 - c0), slots := 52 * (z.2.2.2 - c0), locals := 215 } s m args below meth c H locs (2 * (M.2.2 - c0)) (52 * (M.2.2 - c0)) (MQ below (aq_i cx_T D cy z0 ad X z.1 z.2) args s (2 * (z.2.2.2 - c0)) (52 * (z.2.2.2 - c0)) (fun q => z0 ≤ q)) (F0 m 42 ls []) := by
  have hx := hC.1
  have hb := hC.2.1
  have hmz : M.2.2 ≤ z.2.2.2 := mo_X11_fell_42 hm42 hf
  unfold f_X11_fell_42 at hf
  refine lv_iload hx hb dX11_fell_42 (lv_at hl 3 rfl) ?_
  refine lv_aload_n hx hb dX11_fell_44 rfl (lv_at hl 0 rfl) ?_
  refine rg_p hC hw 0 (Nat.le_of_ble_eq_true rfl) rfl fd_X11_2 wf_X11_26 (q := 5) rfl dX11_fell_45 ?_
  refine rg_i hC hw 5 (Nat.le_of_ble_eq_true rfl) rfl fd_X9_2 wf_X11_116 dX11_fell_48 ?_
  refine lv_icmp_ge (tgt := 95) hx hb dX11_fell_51 (by decide) (fun c5 => ?_) (fun c5 => ?_)
  · rw [if_pos c5] at hf
    refine W.widen (k := 2 * (M.2.2 - c0)) (n := 52 * (M.2.2 - c0)) (by omega) (by omega) ?_
    exact k_X11_fell_95 hC (by omega) hf hw (lv_sub hl [0, 2] rfl)
  · rw [if_neg c5] at hf
    refine lv_aload_n hx hb dX11_fell_54 rfl (lv_at hl 0 rfl) ?_
    refine rg_p hC hw 0 (Nat.le_of_ble_eq_true rfl) rfl fd_X11_2 wf_X11_26 (q := 5) rfl dX11_fell_55 ?_
    refine lv_iload hx hb dX11_fell_58 (lv_at hl 1 rfl) ?_
    refine lv_iload hx hb dX11_fell_60 (lv_at hl 3 rfl) ?_
    obtain ⟨z6, ez6, hf⟩ := bd_e hf
    refine clc_Vi hC hw (c_X9_saidLike ez6) hd_X9_saidLike cw_X11_430 (Nat.le_of_ble_eq_true rfl) rfl rfl (rest := []) hl.1 rfl (Nat.le_of_ble_eq_true rfl) ⟨Nat.le_of_ble_eq_true rfl, Nat.le_of_ble_eq_true rfl⟩ ⟨(show 2 * (M.2.2 - c0) ≤ 2 * (z.2.2.2 - c0) by omega), (show 52 * (M.2.2 - c0) ≤ 52 * (z.2.2.2 - c0) by omega)⟩ rfl dX11_fell_62 (fun H locs hw => ?_)
    refine lv_istore (lv' := [(7, .int z6), (0, .ref (ad 0)), (4, .int x4), (5, .int x5), (6, .int x6)]) hx hb dX11_fell_65 hl (by decide) rfl (fun ls hl => ?_)
    refine lv_iload hx hb dX11_fell_67 (lv_at hl 0 rfl) ?_
    obtain ⟨z7, ez7, hf⟩ := sq_e hf
    refine clc_Si hC hw (c_J6_bitCount_0f7a4 ez7.symm) hd_J6_bitCount_0f7a4 cw_X11_308 (rest := []) hl.1 rfl (Nat.le_of_ble_eq_true rfl) ⟨Nat.le_of_ble_eq_true rfl, Nat.le_of_ble_eq_true rfl⟩ ⟨(show 2 * (M.2.2 - c0) ≤ 2 * (z.2.2.2 - c0) by omega), (show 52 * (M.2.2 - c0) ≤ 52 * (z.2.2.2 - c0) by omega)⟩ rfl dX11_fell_69 (fun H locs hw => ?_)
    refine lv_iload hx hb dX11_fell_72 (lv_at hl 3 rfl) ?_
    obtain ⟨z8, ez8, hf⟩ := sq_e hf
    refine clc_Si hC hw (c_J6_bitCount_0f7a4 ez8.symm) hd_J6_bitCount_0f7a4 cw_X11_308 (rest := [.int z7]) hl.1 rfl (Nat.le_of_ble_eq_true rfl) ⟨Nat.le_of_ble_eq_true rfl, Nat.le_of_ble_eq_true rfl⟩ ⟨(show 2 * (M.2.2 - c0) ≤ 2 * (z.2.2.2 - c0) by omega), (show 52 * (M.2.2 - c0) ≤ 52 * (z.2.2.2 - c0) by omega)⟩ rfl dX11_fell_74 (fun H locs hw => ?_)
    refine lv_icmp_le (tgt := 85) hx hb dX11_fell_77 (by decide) (fun c9 => ?_) (fun c9 => ?_)
    · rw [if_pos c9] at hf
      refine lv_iload hx hb dX11_fell_85 (lv_at hl 3 rfl) ?_
      refine W.widen (k := 2 * (M.2.2 - c0)) (n := 52 * (M.2.2 - c0)) (by omega) (by omega) ?_
      exact k_X11_fell_87 hC (by omega) hq42 hm42 hf hw (lv_sub hl [1, 2, 4] rfl)
    · rw [if_neg c9] at hf
      refine lv_iload hx hb dX11_fell_80 (lv_at hl 0 rfl) ?_
      refine lv_goto (tgt := 87) hx hb dX11_fell_82 (by decide) ?_
      refine W.widen (k := 2 * (M.2.2 - c0)) (n := 52 * (M.2.2 - c0)) (by omega) (by omega) ?_
      exact k_X11_fell_87 hC (by omega) hq42 hm42 hf hw (lv_sub hl [1, 2, 4] rfl)
set_option maxRecDepth 100000 in
set_option maxHeartbeats 4000000 in
theorem k_X11_fell_42l {p : Program} {l : Launch} {e : Env} {s : State} {m : MethodId} {args : Array Value} {below : List Frame} {meth : Method} {c : Code} {D : va_G} {cy : Nat → ClassId} {z0 : Nat} {ad : Nat → Nat} {X : va_W} (hC : cx_C p s m args meth c cX11_fell "RhymedThen" (Cond.code yX11_fell cX11_fell 8 (some .int)) 8 (some .int)) {z : (Int32 × mm_M)} {c0 : Nat} : ∀ (n : Nat) (x4 : Int32) (x5 : Int32) (x6 : Int32) (M : mm_M) (u : Nat × Nat) (H : Heap) (locs : List Loc) (ls : Array Slot), c0 ≤ M.2.2 → f_X11_fell_42l n x4 x5 x6 M = some z → wd_in cx_T D cy z0 ad u M X s H locs → lv_has ls 8 [(0, .ref (ad 0)), (4, .int x4), (5, .int x5), (6, .int x6)] → W p l e { frames := 7, cells := 2 * (z.2.2.2 - c0), slots := 52 * (z.2.2.2 - c0), locals := 215 } s m args below meth c H locs (2 * (M.2.2 - c0)) (52 * (M.2.2 - c0)) (MQ below (aq_i cx_T D cy z0 ad X z.1 z.2) args s (2 * (z.2.2.2 - c0)) (52 * (z.2.2.2 - c0)) (fun q => z0 ≤ q)) (F0 m 42 ls []) := by
  intro n
  induction n with
  | zero => intro x4 x5 x6 M u H locs ls hc0 hf; exact absurd hf (by simp [f_X11_fell_42l])
  | succ n ih => intro x4 x5 x6 M u H locs ls hc0 hf hw hl; exact k_X11_fell_42 hC hc0 ih (mo_X11_fell_42l n) hf hw hl
set_option maxRecDepth 100000 in
set_option maxHeartbeats 4000000 in
theorem k_X11_fell_34 {p : Program} {l : Launch} {e : Env} {s : State} {m : MethodId} {args : Array Value} {below : List Frame} {meth : Method} {c : Code} {D : va_G} {cy : Nat → ClassId} {z0 : Nat} {ad : Nat → Nat} {X : va_W} {u : Nat × Nat} (hC : cx_C p s m args meth c cX11_fell "RhymedThen" (Cond.code yX11_fell cX11_fell 8 (some .int)) 8 (some .int)) {z : (Int32 × mm_M)} {c0 : Nat} {t0 : Int32} {M : mm_M} (hc0 : c0 ≤ M.2.2) (hf : f_X11_fell_34 t0 M = some z) {H : Heap} {locs : List Loc} (hw : wd_in cx_T D cy z0 ad u M X s H locs) {ls : Array Slot} (hl : lv_has ls 8 [(0, .ref (ad 0))]) : W p l e { frames := 7, cells := 2 * (z.2.2.2 - c0), slots := 52 * (z.2.2.2 - c0), locals := 215 } s m args below meth c H locs (2 * (M.2.2 - c0)) (52 * (M.2.2 - c0)) (MQ below (aq_i cx_T D cy z0 ad X z.1 z.2) args s (2 * (z.2.2.2 - c0)) (52 * (z.2.2.2 - c0)) (fun q => z0 ≤ q)) (F0 m 34 ls [.int t0]) := by
  have hx := hC.1
  have hb := hC.2.1
  have hmz : M.2.2 ≤ z.2.2.2 := mo_X11_fell_34 hf
  unfold f_X11_fell_34 at hf
  refine lv_istore (lv' := [(4, .int t0), (0, .ref (ad 0))]) hx hb dX11_fell_34 hl (by decide) rfl (fun ls hl => ?_)
  refine lv_iconst (v := 0) hx hb dX11_fell_36 (by decide) ?_
  refine lv_istore (lv' := [(5, .int 0), (4, .int t0), (0, .ref (ad 0))]) hx hb dX11_fell_37 hl (by decide) rfl (fun ls hl => ?_)
  refine lv_iconst (v := 0) hx hb dX11_fell_39 (by decide) ?_
  refine lv_istore (lv' := [(6, .int 0), (5, .int 0), (4, .int t0), (0, .ref (ad 0))]) hx hb dX11_fell_40 hl (by decide) rfl (fun ls hl => ?_)
  refine W.widen (k := 2 * (M.2.2 - c0)) (n := 52 * (M.2.2 - c0)) (by omega) (by omega) ?_
  exact k_X11_fell_42l hC fu_ _ _ _ _ _ _ _ _ (by omega) hf hw (lv_sub hl [3, 2, 1, 0] rfl)
set_option maxRecDepth 100000 in
set_option maxHeartbeats 4000000 in
theorem k_X11_fell {p : Program} {l : Launch} {e : Env} {s : State} {m : MethodId} {args : Array Value} {below : List Frame} {meth : Method} {c : Code} {D : va_G} {cy : Nat → ClassId} {z0 : Nat} {ad : Nat → Nat} {X : va_W} {u : Nat × Nat} (hC : cx_C p s m args meth c cX11_fell "RhymedThen" (Cond.code yX11_fell cX11_fell 8 (some .int)) 8 (some .int)) {z : (Int32 × mm_M)} {c0 : Nat} {x1 : Int32} {x2 : Int32} {x3 : Int32} {M : mm_M} (hc0 : c0 ≤ M.2.2) (hf : f_X11_fell x1 x2 x3 M = some z) {H : Heap} {locs : List Loc} (hw : wd_in cx_T D cy z0 ad u M X s H locs) {ls : Array Slot} (hl : lv_has ls 8 [(0, .ref (ad 0)), (1, .int x1), (2, .int x2), (3, .int x3)]) : W p l e { frames := 7, cells := 2 * (z.2.2.2 - c0), slots := 52 * (z.2.2.2 - c0), locals := 215 } s m args below meth c H locs (2 * (M.2.2 - c0)) (52 * (M.2.2 - c0)) (MQ below (aq_i cx_T D cy z0 ad X z.1 z.2) args s (2 * (z.2.2.2 - c0)) (52 * (z.2.2.2 - c0)) (fun q => z0 ≤ q)) (F0 m 0 ls []) := by
  have hx := hC.1
  have hb := hC.2.1
  have hmz : M.2.2 ≤ z.2.2.2 := mo_X11_fell hf
  unfold f_X11_fell at hf
  refine lv_aload_n hx hb dX11_fell_0 rfl (lv_at hl 0 rfl) ?_
  refine lv_iload_n hx hb dX11_fell_1 rfl (lv_at hl 1 rfl) ?_
  refine lv_iload_n hx hb dX11_fell_2 rfl (lv_at hl 2 rfl) ?_
  refine lv_iload_n hx hb dX11_fell_3 rfl (lv_at hl 3 rfl) ?_
  obtain ⟨z1, ez1, hf⟩ := sq_e hf
  refine clc_Vi hC hw (c_X11_isThenAndThere ez1.symm) hd_X11_isThenAndThere cw_X11_188 (Nat.le_of_ble_eq_true rfl) rfl rfl (rest := []) hl.1 rfl (Nat.le_of_ble_eq_true rfl) ⟨Nat.le_of_ble_eq_true rfl, Nat.le_of_ble_eq_true rfl⟩ ⟨(show 2 * (M.2.2 - c0) ≤ 2 * (z.2.2.2 - c0) by omega), (show 52 * (M.2.2 - c0) ≤ 52 * (z.2.2.2 - c0) by omega)⟩ rfl dX11_fell_4 (fun H locs hw => ?_)
  refine lv_if_ne (tgt := 12) hx hb dX11_fell_7 (by decide) (fun c2 => ?_) (fun c2 => ?_)
  · rw [if_neg c2] at hf
    refine lv_aload_n hx hb dX11_fell_12 rfl (lv_at hl 0 rfl) ?_
    refine rg_p hC hw 0 (Nat.le_of_ble_eq_true rfl) rfl fd_X11_2 wf_X11_26 (q := 5) rfl dX11_fell_13 ?_
    refine rg_i hC hw 5 (Nat.le_of_ble_eq_true rfl) rfl fd_X9_2 wf_X11_116 dX11_fell_16 ?_
    refine lv_if_ne (tgt := 24) hx hb dX11_fell_19 (by decide) (fun c3 => ?_) (fun c3 => ?_)
    · rw [if_neg c3] at hf
      refine lv_aload_n hx hb dX11_fell_24 rfl (lv_at hl 0 rfl) ?_
      refine rg_p hC hw 0 (Nat.le_of_ble_eq_true rfl) rfl fd_X11_3 wf_X11_35 (q := 14) rfl dX11_fell_25 ?_
      refine lv_iload_n hx hb dX11_fell_28 rfl (lv_at hl 1 rfl) ?_
      refine lv_iload_n hx hb dX11_fell_29 rfl (lv_at hl 2 rfl) ?_
      refine lv_iload_n hx hb dX11_fell_30 rfl (lv_at hl 3 rfl) ?_
      obtain ⟨z4, ez4, hf⟩ := bd_e hf
      have mz4 : M.2.2 ≤ z4.2.2.2 := mo_X3_courseAt ez4
      have hnz : z4.2.2.2 ≤ z.2.2.2 := mo_X11_fell_34 hf
      refine cla_Vi hC hw (c_X3_courseAt ez4) hd_X3_courseAt cw_X11_195 (Nat.le_of_ble_eq_true rfl) rfl rfl (rest := []) hl.1 rfl (Nat.le_of_ble_eq_true rfl) ⟨Nat.le_of_ble_eq_true rfl, Nat.le_of_ble_eq_true rfl⟩ ⟨(show 2 * (M.2.2 - c0) + 2 * (z4.2.2.2 - M.2.2) ≤ 2 * (z.2.2.2 - c0) by omega), (show 52 * (M.2.2 - c0) + 52 * (z4.2.2.2 - M.2.2) ≤ 52 * (z.2.2.2 - c0) by omega)⟩ rfl dX11_fell_31 (fun u H locs hw => ?_)
      refine W.widen (k := 2 * (z4.2.2.2 - c0)) (n := 52 * (z4.2.2.2 - c0)) (by omega) (by omega) ?_
      exact k_X11_fell_34 hC (by omega) hf hw (lv_sub hl [0] rfl)
    · rw [if_pos c3] at hf
      refine lv_iconst (v := 0) hx hb dX11_fell_22 (by decide) ?_
      refine W.widen (k := 2 * (z.2.2.2 - c0)) (n := 52 * (z.2.2.2 - c0)) (by omega) (by omega) ?_
      have hz := Option.some.inj hf
      subst hz
      exact rta_i hC hw dX11_fell_23
  · rw [if_pos c2] at hf
    refine lv_iconst (v := (-1)) hx hb dX11_fell_10 (by decide) ?_
    refine W.widen (k := 2 * (z.2.2.2 - c0)) (n := 52 * (z.2.2.2 - c0)) (by omega) (by omega) ?_
    have hz := Option.some.inj hf
    subst hz
    exact rta_i hC hw dX11_fell_11
set_option maxRecDepth 100000 in
theorem c_X11_fell {l : Launch} {D : va_G} {cy : Nat → ClassId} {z0 : Nat} {ad : Nat → Nat} {u : Nat × Nat} {X : va_W} {z : (Int32 × mm_M)} {x1 : Int32} {x2 : Int32} {x3 : Int32} {M : mm_M} (hf : f_X11_fell x1 x2 x3 M = some z) : ca_i cx_T l yX11_fell (Cond.code yX11_fell cX11_fell 8 (some .int)) 7 215 D cy z0 ad u M X [.ref (ad 0), .int x1, .int x2, .int x3] z.1 z.2 := by
  refine bga_i (by decide) (fun p e s m below meth c hC hw => ?_)
  refine en_t (Nat.le_of_ble_eq_true rfl) (fun ls hl => ?_)
  have hl : lv_has ls 8 [(0, .ref (ad 0)), (1, .int x1), (2, .int x2), (3, .int x3)] := hl
  refine W.widen (k := 2 * (M.2.2 - M.2.2)) (n := 52 * (M.2.2 - M.2.2)) (by omega) (by omega) ?_
  exact k_X11_fell hC (Nat.le_refl _) hf hw hl
set_option maxRecDepth 100000 in
set_option maxHeartbeats 4000000 in
theorem k_X11_firstSaidSo_47 {p : Program} {l : Launch} {e : Env} {s : State} {m : MethodId} {args : Array Value} {below : List Frame} {meth : Method} {c : Code} {D : va_G} {cy : Nat → ClassId} {z0 : Nat} {ad : Nat → Nat} {X : va_W} {u : Nat × Nat} (hC : cx_C p s m args meth c cX11_firstSaidSo "RhymedThen" (Cond.code yX11_firstSaidSo cX11_firstSaidSo 8 (some .int)) 8 (some .int)) {z : (Int32 × mm_M)} {c0 : Nat} {x1 : Int32} {x2 : Int64} {x4 : Int32} {x5 : Int32} {x6 : Int32} {x7 : Int32} {t1 : Int32} {M : mm_M} (hc0 : c0 ≤ M.2.2) {q3 : Int32 → Int64 → Int32 → Int32 → Int32 → mm_M → Option (Int32 × mm_M)} (hq3 : ∀ (x1 : Int32) (x2 : Int64) (x4 : Int32) (x5 : Int32) (x6 : Int32) (M : mm_M) (u : Nat × Nat) (H : Heap) (locs : List Loc) (ls : Array Slot), c0 ≤ M.2.2 → q3 x1 x2 x4 x5 x6 M = some z → wd_in cx_T D cy z0 ad u M X s H locs → lv_has ls 8 [(0, .ref (ad 0)), (1, .int x1), (2, .long x2), (4, .int x4), (5, .int x5), (6, .int x6)] → W p l e { frames := 7, cells := 2 * (z.2.2.2 - c0), slots := 52 * (z.2.2.2 - c0), locals := 215 } s m args below meth c H locs (2 * (M.2.2 - c0)) (52 * (M.2.2 - c0)) (MQ below (aq_i cx_T D cy z0 ad X z.1 z.2) args s (2 * (z.2.2.2 - c0)) (52 * (z.2.2.2 - c0)) (fun q => z0 ≤ q)) (F0 m 3 ls [])) (hm3 : ∀ (x1 : Int32) (x2 : Int64) (x4 : Int32) (x5 : Int32) (x6 : Int32) (M : mm_M), q3 x1 x2 x4 x5 x6 M = some z → M.2.2 ≤ z.2.2.2) (hf : f_X11_firstSaidSo_47 q3 x1 x2 x4 x5 x6 x7 t1 M = some z) {H : Heap} {locs : List Loc} (hw : wd_in cx_T D cy z0 ad u M X s H locs) {ls : Array Slot} (hl : lv_has ls 8 [(0, .ref (ad 0)), (1, .int x1), (2, .long x2), (4, .int x4), (5, .int x5), (6, .int x6), (7, .int x7)]) : W p l e { frames := 7, cells := 2 * (z.2.2.2 - c0), slots := 52 * (z.2.2.2 - c0), locals := 215 } s m args below meth c H locs (2 * (M.2.2 - c0)) (52 * (M.2.2 - c0)) (MQ below (aq_i cx_T D cy z0 ad X z.1 z.2) args s (2 * (z.2.2.2 - c0)) (52 * (z.2.2.2 - c0)) (fun q => z0 ≤ q)) (F0 m 47 ls [.int t1, .ref (ad 5)]) := by
  have hx := hC.1
  have hb := hC.2.1
  have hmz : M.2.2 ≤ z.2.2.2 := mo_X11_firstSaidSo_47 hm3 hf
  unfold f_X11_firstSaidSo_47 at hf
  refine lv_iload_n hx hb dX11_firstSaidSo_47 rfl (lv_at hl 1 rfl) ?_
  obtain ⟨z4, ez4, hf⟩ := bd_e hf
  refine clc_Vl hC hw (c_X9_formOn ez4) hd_X9_formOn cw_X11_198 (Nat.le_of_ble_eq_true rfl) rfl rfl (rest := []) hl.1 rfl (Nat.le_of_ble_eq_true rfl) ⟨Nat.le_of_ble_eq_true rfl, Nat.le_of_ble_eq_true rfl⟩ ⟨(show 2 * (M.2.2 - c0) ≤ 2 * (z.2.2.2 - c0) by omega), (show 52 * (M.2.2 - c0) ≤ 52 * (z.2.2.2 - c0) by omega)⟩ rfl dX11_firstSaidSo_48 (fun H locs hw => ?_)
  refine lv_lload_n hx hb dX11_firstSaidSo_51 rfl (lv_at hl 2 rfl) ?_
  refine lc_ne (tgt := 59) hx hb dX11_firstSaidSo_52 dX11_firstSaidSo_53 (by decide) (fun c5 => ?_) (fun c5 => ?_)
  · rw [if_neg c5] at hf
    obtain ⟨y6, ey6, hf⟩ := sq_e hf
    refine lv_iinc (v := y6) (lv' := [(6, .int y6), (0, .ref (ad 0)), (1, .int x1), (2, .long x2), (4, .int x4), (5, .int x5), (7, .int x7)]) hx hb dX11_firstSaidSo_59 hl (k := 5) rfl (by rw [ey6]; rfl) (by decide) rfl (fun ls hl => ?_)
    refine lv_goto (tgt := 3) hx hb dX11_firstSaidSo_62 (by decide) ?_
    refine W.widen (k := 2 * (M.2.2 - c0)) (n := 52 * (M.2.2 - c0)) (by omega) (by omega) ?_
    exact hq3 _ _ _ _ _ _ _ _ _ _ (by omega) hf hw (lv_sub hl [1, 2, 3, 4, 5, 0] rfl)
  · rw [if_pos c5] at hf
    refine lv_iload hx hb dX11_firstSaidSo_56 (lv_at hl 6 rfl) ?_
    refine W.widen (k := 2 * (z.2.2.2 - c0)) (n := 52 * (z.2.2.2 - c0)) (by omega) (by omega) ?_
    have hz := Option.some.inj hf
    subst hz
    exact rta_i hC hw dX11_firstSaidSo_58
set_option maxRecDepth 100000 in
set_option maxHeartbeats 4000000 in
theorem k_X11_firstSaidSo_3 {p : Program} {l : Launch} {e : Env} {s : State} {m : MethodId} {args : Array Value} {below : List Frame} {meth : Method} {c : Code} {D : va_G} {cy : Nat → ClassId} {z0 : Nat} {ad : Nat → Nat} {X : va_W} {u : Nat × Nat} (hC : cx_C p s m args meth c cX11_firstSaidSo "RhymedThen" (Cond.code yX11_firstSaidSo cX11_firstSaidSo 8 (some .int)) 8 (some .int)) {z : (Int32 × mm_M)} {c0 : Nat} {x1 : Int32} {x2 : Int64} {x4 : Int32} {x5 : Int32} {x6 : Int32} {M : mm_M} (hc0 : c0 ≤ M.2.2) {q3 : Int32 → Int64 → Int32 → Int32 → Int32 → mm_M → Option (Int32 × mm_M)} (hq3 : ∀ (x1 : Int32) (x2 : Int64) (x4 : Int32) (x5 : Int32) (x6 : Int32) (M : mm_M) (u : Nat × Nat) (H : Heap) (locs : List Loc) (ls : Array Slot), c0 ≤ M.2.2 → q3 x1 x2 x4 x5 x6 M = some z → wd_in cx_T D cy z0 ad u M X s H locs → lv_has ls 8 [(0, .ref (ad 0)), (1, .int x1), (2, .long x2), (4, .int x4), (5, .int x5), (6, .int x6)] → W p l e { frames := 7, cells := 2 * (z.2.2.2 - c0), slots := 52 * (z.2.2.2 - c0), locals := 215 } s m args below meth c H locs (2 * (M.2.2 - c0)) (52 * (M.2.2 - c0)) (MQ below (aq_i cx_T D cy z0 ad X z.1 z.2) args s (2 * (z.2.2.2 - c0)) (52 * (z.2.2.2 - c0)) (fun q => z0 ≤ q)) (F0 m 3 ls [])) (hm3 : ∀ (x1 : Int32) (x2 : Int64) (x4 : Int32) (x5 : Int32) (x6 : Int32) (M : mm_M), q3 x1 x2 x4 x5 x6 M = some z → M.2.2 ≤ z.2.2.2) (hf : f_X11_firstSaidSo_3 q3 x1 x2 x4 x5 x6 M = some z) {H : Heap} {locs : List Loc} (hw : wd_in cx_T D cy z0 ad u M X s H locs) {ls : Array Slot} (hl : lv_has ls 8 [(0, .ref (ad 0)), (1, .int x1), (2, .long x2), (4, .int x4), (5, .int x5), (6, .int x6)]) : W p l e { frames := 7, cells := 2 * (z.2.2.2 - c0), slots := 52 * (z.2.2.2 - c0), locals := 215 } s m args below meth c H locs (2 * (M.2.2 - c0)) (52 * (M.2.2 - c0)) (MQ below (aq_i cx_T D cy z0 ad X z.1 z.2) args s (2 * (z.2.2.2 - c0)) (52 * (z.2.2.2 - c0)) (fun q => z0 ≤ q)) (F0 m 3 ls []) := by
  have hx := hC.1
  have hb := hC.2.1
  have hmz : M.2.2 ≤ z.2.2.2 := mo_X11_firstSaidSo_3 hm3 hf
  unfold f_X11_firstSaidSo_3 at hf
  refine lv_iload hx hb dX11_firstSaidSo_3 (lv_at hl 5 rfl) ?_
  refine lv_aload_n hx hb dX11_firstSaidSo_5 rfl (lv_at hl 0 rfl) ?_
  refine rg_p hC hw 0 (Nat.le_of_ble_eq_true rfl) rfl fd_X11_2 wf_X11_26 (q := 5) rfl dX11_firstSaidSo_6 ?_
  refine rg_i hC hw 5 (Nat.le_of_ble_eq_true rfl) rfl fd_X9_1 wf_X11_138 dX11_firstSaidSo_9 ?_
  refine lv_icmp_gt (tgt := 65) hx hb dX11_firstSaidSo_12 (by decide) (fun c1 => ?_) (fun c1 => ?_)
  · rw [if_pos c1] at hf
    refine lv_iconst (v := (-1)) hx hb dX11_firstSaidSo_65 (by decide) ?_
    refine W.widen (k := 2 * (z.2.2.2 - c0)) (n := 52 * (z.2.2.2 - c0)) (by omega) (by omega) ?_
    have hz := Option.some.inj hf
    subst hz
    exact rta_i hC hw dX11_firstSaidSo_66
  · rw [if_neg c1] at hf
    refine lv_aload_n hx hb dX11_firstSaidSo_15 rfl (lv_at hl 0 rfl) ?_
    refine rg_p hC hw 0 (Nat.le_of_ble_eq_true rfl) rfl fd_X11_3 wf_X11_35 (q := 14) rfl dX11_firstSaidSo_16 ?_
    refine lv_iload hx hb dX11_firstSaidSo_19 (lv_at hl 3 rfl) ?_
    refine lv_iload hx hb dX11_firstSaidSo_21 (lv_at hl 5 rfl) ?_
    refine lv_iload hx hb dX11_firstSaidSo_23 (lv_at hl 4 rfl) ?_
    obtain ⟨z2, ez2, hf⟩ := bd_e hf
    refine clc_Vi hC hw (c_X3_newsYear ez2) hd_X3_newsYear cw_X11_221 (Nat.le_of_ble_eq_true rfl) rfl rfl (rest := []) hl.1 rfl (Nat.le_of_ble_eq_true rfl) ⟨Nat.le_of_ble_eq_true rfl, Nat.le_of_ble_eq_true rfl⟩ ⟨(show 2 * (M.2.2 - c0) ≤ 2 * (z.2.2.2 - c0) by omega), (show 52 * (M.2.2 - c0) ≤ 52 * (z.2.2.2 - c0) by omega)⟩ rfl dX11_firstSaidSo_25 (fun H locs hw => ?_)
    refine lv_istore (lv' := [(7, .int z2), (0, .ref (ad 0)), (1, .int x1), (2, .long x2), (4, .int x4), (5, .int x5), (6, .int x6)]) hx hb dX11_firstSaidSo_28 hl (by decide) rfl (fun ls hl => ?_)
    refine lv_aload_n hx hb dX11_firstSaidSo_30 rfl (lv_at hl 1 rfl) ?_
    refine rg_p hC hw 0 (Nat.le_of_ble_eq_true rfl) rfl fd_X11_2 wf_X11_26 (q := 5) rfl dX11_firstSaidSo_31 ?_
    refine lv_aload_n hx hb dX11_firstSaidSo_34 rfl (lv_at hl 1 rfl) ?_
    refine rg_p hC hw 0 (Nat.le_of_ble_eq_true rfl) rfl fd_X11_3 wf_X11_35 (q := 14) rfl dX11_firstSaidSo_35 ?_
    refine lv_iload hx hb dX11_firstSaidSo_38 (lv_at hl 4 rfl) ?_
    refine lv_iload hx hb dX11_firstSaidSo_40 (lv_at hl 0 rfl) ?_
    refine lv_iload hx hb dX11_firstSaidSo_42 (lv_at hl 5 rfl) ?_
    obtain ⟨z3, ez3, hf⟩ := bd_e hf
    have mz3 : M.2.2 ≤ z3.2.2.2 := mo_X3_courseAt ez3
    have hnz : z3.2.2.2 ≤ z.2.2.2 := mo_X11_firstSaidSo_47 hm3 hf
    refine cla_Vi hC hw (c_X3_courseAt ez3) hd_X3_courseAt cw_X11_195 (Nat.le_of_ble_eq_true rfl) rfl rfl (rest := [.ref (ad 5)]) hl.1 rfl (Nat.le_of_ble_eq_true rfl) ⟨Nat.le_of_ble_eq_true rfl, Nat.le_of_ble_eq_true rfl⟩ ⟨(show 2 * (M.2.2 - c0) + 2 * (z3.2.2.2 - M.2.2) ≤ 2 * (z.2.2.2 - c0) by omega), (show 52 * (M.2.2 - c0) + 52 * (z3.2.2.2 - M.2.2) ≤ 52 * (z.2.2.2 - c0) by omega)⟩ rfl dX11_firstSaidSo_44 (fun u H locs hw => ?_)
    refine W.widen (k := 2 * (z3.2.2.2 - c0)) (n := 52 * (z3.2.2.2 - c0)) (by omega) (by omega) ?_
    exact k_X11_firstSaidSo_47 hC (by omega) hq3 hm3 hf hw (lv_sub hl [1, 2, 3, 4, 5, 6, 0] rfl)
set_option maxRecDepth 100000 in
set_option maxHeartbeats 4000000 in
theorem k_X11_firstSaidSo_3l {p : Program} {l : Launch} {e : Env} {s : State} {m : MethodId} {args : Array Value} {below : List Frame} {meth : Method} {c : Code} {D : va_G} {cy : Nat → ClassId} {z0 : Nat} {ad : Nat → Nat} {X : va_W} (hC : cx_C p s m args meth c cX11_firstSaidSo "RhymedThen" (Cond.code yX11_firstSaidSo cX11_firstSaidSo 8 (some .int)) 8 (some .int)) {z : (Int32 × mm_M)} {c0 : Nat} : ∀ (n : Nat) (x1 : Int32) (x2 : Int64) (x4 : Int32) (x5 : Int32) (x6 : Int32) (M : mm_M) (u : Nat × Nat) (H : Heap) (locs : List Loc) (ls : Array Slot), c0 ≤ M.2.2 → f_X11_firstSaidSo_3l n x1 x2 x4 x5 x6 M = some z → wd_in cx_T D cy z0 ad u M X s H locs → lv_has ls 8 [(0, .ref (ad 0)), (1, .int x1), (2, .long x2), (4, .int x4), (5, .int x5), (6, .int x6)] → W p l e { frames := 7, cells := 2 * (z.2.2.2 - c0), slots := 52 * (z.2.2.2 - c0), locals := 215 } s m args below meth c H locs (2 * (M.2.2 - c0)) (52 * (M.2.2 - c0)) (MQ below (aq_i cx_T D cy z0 ad X z.1 z.2) args s (2 * (z.2.2.2 - c0)) (52 * (z.2.2.2 - c0)) (fun q => z0 ≤ q)) (F0 m 3 ls []) := by
  intro n
  induction n with
  | zero => intro x1 x2 x4 x5 x6 M u H locs ls hc0 hf; exact absurd hf (by simp [f_X11_firstSaidSo_3l])
  | succ n ih => intro x1 x2 x4 x5 x6 M u H locs ls hc0 hf hw hl; exact k_X11_firstSaidSo_3 hC hc0 ih (mo_X11_firstSaidSo_3l n) hf hw hl
set_option maxRecDepth 100000 in
set_option maxHeartbeats 4000000 in
theorem k_X11_firstSaidSo {p : Program} {l : Launch} {e : Env} {s : State} {m : MethodId} {args : Array Value} {below : List Frame} {meth : Method} {c : Code} {D : va_G} {cy : Nat → ClassId} {z0 : Nat} {ad : Nat → Nat} {X : va_W} {u : Nat × Nat} (hC : cx_C p s m args meth c cX11_firstSaidSo "RhymedThen" (Cond.code yX11_firstSaidSo cX11_firstSaidSo 8 (some .int)) 8 (some .int)) {z : (Int32 × mm_M)} {c0 : Nat} {x1 : Int32} {x2 : Int64} {x4 : Int32} {x5 : Int32} {M : mm_M} (hc0 : c0 ≤ M.2.2) (hf : f_X11_firstSaidSo x1 x2 x4 x5 M = some z) {H : Heap} {locs : List Loc} (hw : wd_in cx_T D cy z0 ad u M X s H locs) {ls : Array Slot} (hl : lv_has ls 8 [(0, .ref (ad 0)), (1, .int x1), (2, .long x2), (4, .int x4), (5, .int x5)]) : W p l e { frames := 7, cells := 2 * (z.2.2.2 - c0), slots := 52 * (z.2.2.2 - c0), locals := 215 } s m args below meth c H locs (2 * (M.2.2 - c0)) (52 * (M.2.2 - c0)) (MQ below (aq_i cx_T D cy z0 ad X z.1 z.2) args s (2 * (z.2.2.2 - c0)) (52 * (z.2.2.2 - c0)) (fun q => z0 ≤ q)) (F0 m 0 ls []) := by
  have hx := hC.1
  have hb := hC.2.1
  have hmz : M.2.2 ≤ z.2.2.2 := mo_X11_firstSaidSo hf
  unfold f_X11_firstSaidSo at hf
  refine lv_iconst (v := 0) hx hb dX11_firstSaidSo_0 (by decide) ?_
  refine lv_istore (lv' := [(6, .int 0), (0, .ref (ad 0)), (1, .int x1), (2, .long x2), (4, .int x4), (5, .int x5)]) hx hb dX11_firstSaidSo_1 hl (by decide) rfl (fun ls hl => ?_)
  refine W.widen (k := 2 * (M.2.2 - c0)) (n := 52 * (M.2.2 - c0)) (by omega) (by omega) ?_
  exact k_X11_firstSaidSo_3l hC fu_ _ _ _ _ _ _ _ _ _ _ (by omega) hf hw (lv_sub hl [1, 2, 3, 4, 5, 0] rfl)
set_option maxRecDepth 100000 in
theorem c_X11_firstSaidSo {l : Launch} {D : va_G} {cy : Nat → ClassId} {z0 : Nat} {ad : Nat → Nat} {u : Nat × Nat} {X : va_W} {z : (Int32 × mm_M)} {x1 : Int32} {x2 : Int64} {x4 : Int32} {x5 : Int32} {M : mm_M} (hf : f_X11_firstSaidSo x1 x2 x4 x5 M = some z) : ca_i cx_T l yX11_firstSaidSo (Cond.code yX11_firstSaidSo cX11_firstSaidSo 8 (some .int)) 7 215 D cy z0 ad u M X [.ref (ad 0), .int x1, .long x2, .int x4, .int x5] z.1 z.2 := by
  refine bga_i (by decide) (fun p e s m below meth c hC hw => ?_)
  refine en_t (Nat.le_of_ble_eq_true rfl) (fun ls hl => ?_)
  have hl : lv_has ls 8 [(0, .ref (ad 0)), (1, .int x1), (2, .long x2), (4, .int x4), (5, .int x5)] := hl
  refine W.widen (k := 2 * (M.2.2 - M.2.2)) (n := 52 * (M.2.2 - M.2.2)) (by omega) (by omega) ?_
  exact k_X11_firstSaidSo hC (Nat.le_refl _) hf hw hl
set_option maxRecDepth 100000 in
set_option maxHeartbeats 4000000 in
theorem k_X11_town_94 {p : Program} {l : Launch} {e : Env} {s : State} {m : MethodId} {args : Array Value} {below : List Frame} {meth : Method} {c : Code} {D : va_G} {cy : Nat → ClassId} {z0 : Nat} {ad : Nat → Nat} {X : va_W} {u : Nat × Nat} (hC : cx_C p s m args meth c cX11_town "RhymedThen" (Cond.code yX11_town cX11_town 11 (some .int)) 11 (some .int)) {z : (Int32 × mm_M)} {c0 : Nat} {x1 : Int32} {x2 : Int32} {x5 : Int64} {x7 : Int32} {x8 : Int32} {x9 : Int32} {M : mm_M} (hc0 : c0 ≤ M.2.2) {q51 : Int32 → Int32 → Int64 → Int32 → Int32 → Int32 → mm_M → Option (Int32 × mm_M)} (hq51 : ∀ (x1 : Int32) (x2 : Int32) (x5 : Int64) (x7 : Int32) (x8 : Int32) (x9 : Int32) (M : mm_M) (u : Nat × Nat) (H : Heap) (locs : List Loc) (ls : Array Slot), c0 ≤ M.2.2 → q51 x1 x2 x5 x7 x8 x9 M = some z → wd_in cx_T D cy z0 ad u M X s H locs → lv_has ls 11 [(0, .ref (ad 0)), (1, .int x1), (2, .int x2), (5, .long x5), (7, .int x7), (8, .int x8), (9, .int x9)] → W p l e { frames := 8, cells := 2 * (z.2.2.2 - c0), slots := 52 * (z.2.2.2 - c0), locals := 242 } s m args below meth c H locs (2 * (M.2.2 - c0)) (52 * (M.2.2 - c0)) (MQ below (aq_i cx_T D cy z0 ad X z.1 z.2) args s (2 * (z.2.2.2 - c0)) (52 * (z.2.2.2 - c0)) (fun q => z0 ≤ q)) (F0 m 51 ls [])) (hm51 : ∀ (x1 : Int32) (x2 : Int32) (x5 : Int64) (x7 : Int32) (x8 : Int32) (x9 : Int32) (M : mm_M), q51 x1 x2 x5 x7 x8 x9 M = some z → M.2.2 ≤ z.2.2.2) (hf : f_X11_town_94 q51 x1 x2 x5 x7 x8 x9 M = some z) {H : Heap} {locs : List Loc} (hw : wd_in cx_T D cy z0 ad u M X s H locs) {ls : Array Slot} (hl : lv_has ls 11 [(0, .ref (ad 0)), (1, .int x1), (2, .int x2), (5, .long x5), (7, .int x7), (8, .int x8), (9, .int x9)]) : W p l e { frames := 8, cells := 2 * (z.2.2.2 - c0), slots := 52 * (z.2.2.2 - c0), locals := 242 } s m args below meth c H locs (2 * (M.2.2 - c0)) (52 * (M.2.2 - c0)) (MQ below (aq_i cx_T D cy z0 ad X z.1 z.2) args s (2 * (z.2.2.2 - c0)) (52 * (z.2.2.2 - c0)) (fun q => z0 ≤ q)) (F0 m 94 ls []) := by
  have hx := hC.1
  have hb := hC.2.1
  have hmz : M.2.2 ≤ z.2.2.2 := mo_X11_town_94 hm51 hf
  unfold f_X11_town_94 at hf
  obtain ⟨y13, ey13, hf⟩ := sq_e hf
  refine lv_iinc (v := y13) (lv' := [(9, .int y13), (0, .ref (ad 0)), (1, .int x1), (2, .int x2), (5, .long x5), (7, .int x7), (8, .int x8)]) hx hb dX11_town_94 hl (k := 6) rfl (by rw [ey13]; rfl) (by decide) rfl (fun ls hl => ?_)
  refine lv_goto (tgt := 51) hx hb dX11_town_97 (by decide) ?_
  refine W.widen (k := 2 * (M.2.2 - c0)) (n := 52 * (M.2.2 - c0)) (by omega) (by omega) ?_
  exact hq51 _ _ _ _ _ _ _ _ _ _ _ (by omega) hf hw (lv_sub hl [1, 2, 3, 4, 5, 6, 0] rfl)
set_option maxRecDepth 100000 in
set_option maxHeartbeats 4000000 in
theorem k_X11_town_68 {p : Program} {l : Launch} {e : Env} {s : State} {m : MethodId} {args : Array Value} {below : List Frame} {meth : Method} {c : Code} {D : va_G} {cy : Nat → ClassId} {z0 : Nat} {ad : Nat → Nat} {X : va_W} {u : Nat × Nat} (hC : cx_C p s m args meth c cX11_town "RhymedThen" (Cond.code yX11_town cX11_town 11 (some .int)) 11 (some .int)) {z : (Int32 × mm_M)} {c0 : Nat} {x1 : Int32} {x2 : Int32} {x5 : Int64} {x7 : Int32} {x8 : Int32} {x9 : Int32} {t0 : Int32} {M : mm_M} (hc0 : c0 ≤ M.2.2) {q51 : Int32 → Int32 → Int64 → Int32 → Int32 → Int32 → mm_M → Option (Int32 × mm_M)} (hq51 : ∀ (x1 : Int32) (x2 : Int32) (x5 : Int64) (x7 : Int32) (x8 : Int32) (x9 : Int32) (M : mm_M) (u : Nat × Nat) (H : Heap) (locs : List Loc) (ls : Array Slot), c0 ≤ M.2.2 → q51 x1 x2 x5 x7 x8 x9 M = some z → wd_in cx_T D cy z0 ad u M X s H locs → lv_has ls 11 [(0, .ref (ad 0)), (1, .int x1), (2, .int x2), (5, .long x5), (7, .int x7), (8, .int x8), (9, .int x9)] → W p l e { frames := 8, cells := 2 * (z.2.2.2 - c0), slots := 52 * (z.2.2.2 - c0), locals := 242 } s m args below meth c H locs (2 * (M.2.2 - c0)) (52 * (M.2.2 - c0)) (MQ below (aq_i cx_T D cy z0 ad X z.1 z.2) args s (2 * (z.2.2.2 - c0)) (52 * (z.2.2.2 - c0)) (fun q => z0 ≤ q)) (F0 m 51 ls [])) (hm51 : ∀ (x1 : Int32) (x2 : Int32) (x5 : Int64) (x7 : Int32) (x8 : Int32) (x9 : Int32) (M : mm_M), q51 x1 x2 x5 x7 x8 x9 M = some z → M.2.2 ≤ z.2.2.2) (hf : f_X11_town_68 q51 x1 x2 x5 x7 x8 x9 t0 M = some z) {H : Heap} {locs : List Loc} (hw : wd_in cx_T D cy z0 ad u M X s H locs) {ls : Array Slot} (hl : lv_has ls 11 [(0, .ref (ad 0)), (1, .int x1), (2, .int x2), (5, .long x5), (7, .int x7), (8, .int x8), (9, .int x9)]) : W p l e { frames := 8, cells := 2 * (z.2.2.2 - c0), slots := 52 * (z.2.2.2 - c0), locals := 242 } s m args below meth c H locs (2 * (M.2.2 - c0)) (52 * (M.2.2 - c0)) (MQ below (aq_i cx_T D cy z0 ad X z.1 z.2) args s (2 * (z.2.2.2 - c0)) (52 * (z.2.2.2 - c0)) (fun q => z0 ≤ q)) (F0 m 68 ls [.int t0]) := by
  have hx := hC.1
  have hb := hC.2.1
  have hmz : M.2.2 ≤ z.2.2.2 := mo_X11_town_68 hm51 hf
  unfold f_X11_town_68 at hf
  refine lv_istore (lv' := [(10, .int t0), (0, .ref (ad 0)), (1, .int x1), (2, .int x2), (5, .long x5), (7, .int x7), (8, .int x8), (9, .int x9)]) hx hb dX11_town_68 hl (by decide) rfl (fun ls hl => ?_)
  refine lv_iload hx hb dX11_town_70 (lv_at hl 0 rfl) ?_
  refine lv_iconst (v := (-1)) hx hb dX11_town_72 (by decide) ?_
  refine lv_icmp_ne (tgt := 79) hx hb dX11_town_73 (by decide) (fun c11 => ?_) (fun c11 => ?_)
  · rw [if_neg c11] at hf
    refine lv_iload hx hb dX11_town_79 (lv_at hl 0 rfl) ?_
    refine lv_iload hx hb dX11_town_81 (lv_at hl 5 rfl) ?_
    refine lv_icmp_le (tgt := 94) hx hb dX11_town_83 (by decide) (fun c12 => ?_) (fun c12 => ?_)
    · rw [if_pos c12] at hf
      refine W.widen (k := 2 * (M.2.2 - c0)) (n := 52 * (M.2.2 - c0)) (by omega) (by omega) ?_
      exact k_X11_town_94 hC (by omega) hq51 hm51 hf hw (lv_sub hl [1, 2, 3, 4, 5, 6, 7] rfl)
    · rw [if_neg c12] at hf
      refine lv_iload hx hb dX11_town_86 (lv_at hl 0 rfl) ?_
      refine lv_istore (lv' := [(7, .int t0), (10, .int t0), (0, .ref (ad 0)), (1, .int x1), (2, .int x2), (5, .long x5), (8, .int x8), (9, .int x9)]) hx hb dX11_town_88 hl (by decide) rfl (fun ls hl => ?_)
      refine lv_iload hx hb dX11_town_90 (lv_at hl 7 rfl) ?_
      refine lv_istore (lv' := [(8, .int x9), (7, .int t0), (10, .int t0), (0, .ref (ad 0)), (1, .int x1), (2, .int x2), (5, .long x5), (9, .int x9)]) hx hb dX11_town_92 hl (by decide) rfl (fun ls hl => ?_)
      refine W.widen (k := 2 * (M.2.2 - c0)) (n := 52 * (M.2.2 - c0)) (by omega) (by omega) ?_
      exact k_X11_town_94 hC (by omega) hq51 hm51 hf hw (lv_sub hl [3, 4, 5, 6, 1, 0, 7] rfl)
  · rw [if_pos c11] at hf
    refine lv_bipush (v := (-2)) hx hb dX11_town_76 (by decide) ?_
    refine W.widen (k := 2 * (z.2.2.2 - c0)) (n := 52 * (z.2.2.2 - c0)) (by omega) (by omega) ?_
    have hz := Option.some.inj hf
    subst hz
    exact rta_i hC hw dX11_town_78
set_option maxRecDepth 100000 in
set_option maxHeartbeats 4000000 in
theorem k_X11_town_100 {p : Program} {l : Launch} {e : Env} {s : State} {m : MethodId} {args : Array Value} {below : List Frame} {meth : Method} {c : Code} {D : va_G} {cy : Nat → ClassId} {z0 : Nat} {ad : Nat → Nat} {X : va_W} {u : Nat × Nat} (hC : cx_C p s m args meth c cX11_town "RhymedThen" (Cond.code yX11_town cX11_town 11 (some .int)) 11 (some .int)) {z : (Int32 × mm_M)} {c0 : Nat} {x7 : Int32} {x8 : Int32} {M : mm_M} (hc0 : c0 ≤ M.2.2) (hf : f_X11_town_100 x7 x8 M = some z) {H : Heap} {locs : List Loc} (hw : wd_in cx_T D cy z0 ad u M X s H locs) {ls : Array Slot} (hl : lv_has ls 11 [(0, .ref (ad 0)), (7, .int x7), (8, .int x8)]) : W p l e { frames := 8, cells := 2 * (z.2.2.2 - c0), slots := 52 * (z.2.2.2 - c0), locals := 242 } s m args below meth c H locs (2 * (M.2.2 - c0)) (52 * (M.2.2 - c0)) (MQ below (aq_i cx_T D cy z0 ad X z.1 z.2) args s (2 * (z.2.2.2 - c0)) (52 * (z.2.2.2 - c0)) (fun q => z0 ≤ q)) (F0 m 100 ls []) := by
  have hx := hC.1
  have hb := hC.2.1
  have hmz : M.2.2 ≤ z.2.2.2 := mo_X11_town_100 hf
  unfold f_X11_town_100 at hf
  refine lv_aload_n hx hb dX11_town_100 rfl (lv_at hl 0 rfl) ?_
  refine rg_p hC hw 0 (Nat.le_of_ble_eq_true rfl) rfl fd_X11_1 wf_X11_19 (q := 3) rfl dX11_town_101 ?_
  obtain ⟨z9, ez9, hf⟩ := sq_e hf
  have mz9 : M.2.2 ≤ z9.2.2 := mo_X4_clear ez9.symm
  refine clc_Vv hC hw (c_X4_clear ez9.symm) hd_X4_clear cw_X11_192 (Nat.le_of_ble_eq_true rfl) rfl rfl (rest := []) hl.1 rfl (Nat.le_of_ble_eq_true rfl) ⟨Nat.le_of_ble_eq_true rfl, Nat.le_of_ble_eq_true rfl⟩ ⟨(show 2 * (M.2.2 - c0) ≤ 2 * (z.2.2.2 - c0) by omega), (show 52 * (M.2.2 - c0) ≤ 52 * (z.2.2.2 - c0) by omega)⟩ rfl dX11_town_104 (fun H locs hw => ?_)
  refine lv_aload_n hx hb dX11_town_107 rfl (lv_at hl 0 rfl) ?_
  refine rg_p hC hw 0 (Nat.le_of_ble_eq_true rfl) rfl fd_X11_1 wf_X11_19 (q := 3) rfl dX11_town_108 ?_
  refine lv_iload hx hb dX11_town_111 (lv_at hl 2 rfl) ?_
  refine lv_i2l hx hb dX11_town_113 rfl ?_
  obtain ⟨z10, ez10, hf⟩ := bd_e hf
  have mz10 : z9.2.2 ≤ z10.2.2 := mo_X4_add ez10
  refine clc_Vv hC hw (c_X4_add ez10) hd_X4_add cw_X11_214 (Nat.le_of_ble_eq_true rfl) rfl rfl (rest := []) hl.1 rfl (Nat.le_of_ble_eq_true rfl) ⟨Nat.le_of_ble_eq_true rfl, Nat.le_of_ble_eq_true rfl⟩ ⟨(show 2 * (M.2.2 - c0) ≤ 2 * (z.2.2.2 - c0) by omega), (show 52 * (M.2.2 - c0) ≤ 52 * (z.2.2.2 - c0) by omega)⟩ rfl dX11_town_114 (fun H locs hw => ?_)
  refine lv_iload hx hb dX11_town_117 (lv_at hl 1 rfl) ?_
  refine W.widen (k := 2 * (z.2.2.2 - c0)) (n := 52 * (z.2.2.2 - c0)) (by omega) (by omega) ?_
  have hz := Option.some.inj hf
  subst hz
  exact rta_i hC hw dX11_town_119
set_option maxRecDepth 100000 in
set_option maxHeartbeats 4000000 in
theorem k_X11_town_51 {p : Program} {l : Launch} {e : Env} {s : State} {m : MethodId} {args : Array Value} {below : List Frame} {meth : Method} {c : Code} {D : va_G} {cy : Nat → ClassId} {z0 : Nat} {ad : Nat → Nat} {X : va_W} {u : Nat × Nat} (hC : cx_C p s m args meth c cX11_town "RhymedThen" (Cond.code yX11_town cX11_town 11 (some .int)) 11 (some .int)) {z : (Int32 × mm_M)} {c0 : Nat} {x1 : Int32} {x2 : Int32} {x5 : Int64} {x7 : Int32} {x8 : Int32} {x9 : Int32} {M : mm_M} (hc0 : c0 ≤ M.2.2) {q51 : Int32 → Int32 → Int64 → Int32 → Int32 → Int32 → mm_M → Option (Int32 × mm_M)} (hq51 : ∀ (x1 : Int32) (x2 : Int32) (x5 : Int64) (x7 : Int32) (x8 : Int32) (x9 : Int32) (M : mm_M) (u : Nat × Nat) (H : Heap) (locs : List Loc) (ls : Array Slot), c0 ≤ M.2.2 → q51 x1 x2 x5 x7 x8 x9 M = some z → wd_in cx_T D cy z0 ad u M X s H locs → lv_has ls 11 [(0, .ref (ad 0)), (1, .int x1), (2, .int x2), (5, .long x5), (7, .int x7), (8, .int x8), (9, .int x9)] → W p l e { frames := 8, cells := 2 * (z.2.2.2 - c0), slots := 52 * (z.2.2.2 - c0), locals := 242 } s m args below meth c H locs (2 * (M.2.2 - c0)) (52 * (M.2.2 - c0)) (MQ below (aq_i cx_T D cy z0 ad X z.1 z.2) args s (2 * (z.2.2.2 - c0)) (52 * (z.2.2.2 - c0)) (fun q => z0 ≤ q)) (F0 m 51 ls [])) (hm51 : ∀ (x1 : Int32) (x2 : Int32) (x5 : Int64) (x7 : Int32) (x8 : Int32) (x9 : Int32) (M : mm_M), q51 x1 x2 x5 x7 x8 x9 M = some z → M.2.2 ≤ z.2.2.2) (hf : f_X11_town_51 q51 x1 x2 x5 x7 x8 x9 M = some z) {H : Heap} {locs : List Loc} (hw : wd_in cx_T D cy z0 ad u M X s H locs) {ls : Array Slot} (hl : lv_has ls 11 [(0, .ref (ad 0)), (1, .int x1), (2, .int x2), (5, .long x5), (7, .int x7), (8, .int x8), (9, .int x9)]) : W p l e { frames := 8, cells := 2 * (z.2.2.2 - c0), slots := 52 * (z.2.2.2 - c0), locals := 242 } s m args below meth c H locs (2 * (M.2.2 - c0)) (52 * (M.2.2 - c0)) (MQ below (aq_i cx_T D cy z0 ad X z.1 z.2) args s (2 * (z.2.2.2 - c0)) (52 * (z.2.2.2 - c0)) (fun q => z0 ≤ q)) (F0 m 51 ls []) := by
  have hx := hC.1
  have hb := hC.2.1
  have hmz : M.2.2 ≤ z.2.2.2 := mo_X11_town_51 hm51 hf
  unfold f_X11_town_51 at hf
  refine lv_iload hx hb dX11_town_51 (lv_at hl 6 rfl) ?_
  refine lv_bipush (v := 6) hx hb dX11_town_53 (by decide) ?_
  refine lv_icmp_ge (tgt := 100) hx hb dX11_town_55 (by decide) (fun c7 => ?_) (fun c7 => ?_)
  · rw [if_pos c7] at hf
    refine W.widen (k := 2 * (M.2.2 - c0)) (n := 52 * (M.2.2 - c0)) (by omega) (by omega) ?_
    exact k_X11_town_100 hC (by omega) hf hw (lv_sub hl [0, 4, 5] rfl)
  · rw [if_neg c7] at hf
    refine lv_aload_n hx hb dX11_town_58 rfl (lv_at hl 0 rfl) ?_
    refine lv_iload_n hx hb dX11_town_59 rfl (lv_at hl 1 rfl) ?_
    refine lv_lload hx hb dX11_town_60 (lv_at hl 3 rfl) ?_
    refine lv_iload_n hx hb dX11_town_62 rfl (lv_at hl 2 rfl) ?_
    refine lv_iload hx hb dX11_town_63 (lv_at hl 6 rfl) ?_
    obtain ⟨z8, ez8, hf⟩ := bd_e hf
    have mz8 : M.2.2 ≤ z8.2.2.2 := mo_X11_firstSaidSo ez8
    have hnz : z8.2.2.2 ≤ z.2.2.2 := mo_X11_town_68 hm51 hf
    refine cla_Vi hC hw (c_X11_firstSaidSo ez8) hd_X11_firstSaidSo cw_X11_433 (Nat.le_of_ble_eq_true rfl) rfl rfl (rest := []) hl.1 rfl (Nat.le_of_ble_eq_true rfl) ⟨Nat.le_of_ble_eq_true rfl, Nat.le_of_ble_eq_true rfl⟩ ⟨(show 2 * (M.2.2 - c0) + 2 * (z8.2.2.2 - M.2.2) ≤ 2 * (z.2.2.2 - c0) by omega), (show 52 * (M.2.2 - c0) + 52 * (z8.2.2.2 - M.2.2) ≤ 52 * (z.2.2.2 - c0) by omega)⟩ rfl dX11_town_65 (fun u H locs hw => ?_)
    refine W.widen (k := 2 * (z8.2.2.2 - c0)) (n := 52 * (z8.2.2.2 - c0)) (by omega) (by omega) ?_
    exact k_X11_town_68 hC (by omega) hq51 hm51 hf hw (lv_sub hl [0, 1, 2, 3, 4, 5, 6] rfl)
set_option maxRecDepth 100000 in
set_option maxHeartbeats 4000000 in
theorem k_X11_town_51l {p : Program} {l : Launch} {e : Env} {s : State} {m : MethodId} {args : Array Value} {below : List Frame} {meth : Method} {c : Code} {D : va_G} {cy : Nat → ClassId} {z0 : Nat} {ad : Nat → Nat} {X : va_W} (hC : cx_C p s m args meth c cX11_town "RhymedThen" (Cond.code yX11_town cX11_town 11 (some .int)) 11 (some .int)) {z : (Int32 × mm_M)} {c0 : Nat} : ∀ (n : Nat) (x1 : Int32) (x2 : Int32) (x5 : Int64) (x7 : Int32) (x8 : Int32) (x9 : Int32) (M : mm_M) (u : Nat × Nat) (H : Heap) (locs : List Loc) (ls : Array Slot), c0 ≤ M.2.2 → f_X11_town_51l n x1 x2 x5 x7 x8 x9 M = some z → wd_in cx_T D cy z0 ad u M X s H locs → lv_has ls 11 [(0, .ref (ad 0)), (1, .int x1), (2, .int x2), (5, .long x5), (7, .int x7), (8, .int x8), (9, .int x9)] → W p l e { frames := 8, cells := 2 * (z.2.2.2 - c0), slots := 52 * (z.2.2.2 - c0), locals := 242 } s m args below meth c H locs (2 * (M.2.2 - c0)) (52 * (M.2.2 - c0)) (MQ below (aq_i cx_T D cy z0 ad X z.1 z.2) args s (2 * (z.2.2.2 - c0)) (52 * (z.2.2.2 - c0)) (fun q => z0 ≤ q)) (F0 m 51 ls []) := by
  intro n
  induction n with
  | zero => intro x1 x2 x5 x7 x8 x9 M u H locs ls hc0 hf; exact absurd hf (by simp [f_X11_town_51l])
  | succ n ih => intro x1 x2 x5 x7 x8 x9 M u H locs ls hc0 hf hw hl; exact k_X11_town_51 hC hc0 ih (mo_X11_town_51l n) hf hw hl
set_option maxRecDepth 100000 in
set_option maxHeartbeats 4000000 in
theorem k_X11_town_36 {p : Program} {l : Launch} {e : Env} {s : State} {m : MethodId} {args : Array Value} {below : List Frame} {meth : Method} {c : Code} {D : va_G} {cy : Nat → ClassId} {z0 : Nat} {ad : Nat → Nat} {X : va_W} {u : Nat × Nat} (hC : cx_C p s m args meth c cX11_town "RhymedThen" (Cond.code yX11_town cX11_town 11 (some .int)) 11 (some .int)) {z : (Int32 × mm_M)} {c0 : Nat} {x1 : Int32} {x2 : Int32} {t1 : Int32} {M : mm_M} (hc0 : c0 ≤ M.2.2) (hf : f_X11_town_36 x1 x2 t1 M = some z) {H : Heap} {locs : List Loc} (hw : wd_in cx_T D cy z0 ad u M X s H locs) {ls : Array Slot} (hl : lv_has ls 11 [(0, .ref (ad 0)), (1, .int x1), (2, .int x2)]) : W p l e { frames := 8, cells := 2 * (z.2.2.2 - c0), slots := 52 * (z.2.2.2 - c0), locals := 242 } s m args below meth c H locs (2 * (M.2.2 - c0)) (52 * (M.2.2 - c0)) (MQ below (aq_i cx_T D cy z0 ad X z.1 z.2) args s (2 * (z.2.2.2 - c0)) (52 * (z.2.2.2 - c0)) (fun q => z0 ≤ q)) (F0 m 36 ls [.int t1, .ref (ad 5)]) := by
  have hx := hC.1
  have hb := hC.2.1
  have hmz : M.2.2 ≤ z.2.2.2 := mo_X11_town_36 hf
  unfold f_X11_town_36 at hf
  refine lv_iload_n hx hb dX11_town_36 rfl (lv_at hl 1 rfl) ?_
  obtain ⟨z6, ez6, hf⟩ := bd_e hf
  refine clc_Vl hC hw (c_X9_formOn ez6) hd_X9_formOn cw_X11_198 (Nat.le_of_ble_eq_true rfl) rfl rfl (rest := []) hl.1 rfl (Nat.le_of_ble_eq_true rfl) ⟨Nat.le_of_ble_eq_true rfl, Nat.le_of_ble_eq_true rfl⟩ ⟨(show 2 * (M.2.2 - c0) ≤ 2 * (z.2.2.2 - c0) by omega), (show 52 * (M.2.2 - c0) ≤ 52 * (z.2.2.2 - c0) by omega)⟩ rfl dX11_town_37 (fun H locs hw => ?_)
  refine lv_lstore (lv' := [(5, .long z6), (0, .ref (ad 0)), (1, .int x1), (2, .int x2)]) hx hb dX11_town_40 hl (by decide) rfl (fun ls hl => ?_)
  refine lv_iconst (v := (-1)) hx hb dX11_town_42 (by decide) ?_
  refine lv_istore (lv' := [(7, .int (-1)), (5, .long z6), (0, .ref (ad 0)), (1, .int x1), (2, .int x2)]) hx hb dX11_town_43 hl (by decide) rfl (fun ls hl => ?_)
  refine lv_iconst (v := 0) hx hb dX11_town_45 (by decide) ?_
  refine lv_istore (lv' := [(8, .int 0), (7, .int (-1)), (5, .long z6), (0, .ref (ad 0)), (1, .int x1), (2, .int x2)]) hx hb dX11_town_46 hl (by decide) rfl (fun ls hl => ?_)
  refine lv_iconst (v := 0) hx hb dX11_town_48 (by decide) ?_
  refine lv_istore (lv' := [(9, .int 0), (8, .int 0), (7, .int (-1)), (5, .long z6), (0, .ref (ad 0)), (1, .int x1), (2, .int x2)]) hx hb dX11_town_49 hl (by decide) rfl (fun ls hl => ?_)
  refine W.widen (k := 2 * (M.2.2 - c0)) (n := 52 * (M.2.2 - c0)) (by omega) (by omega) ?_
  exact k_X11_town_51l hC fu_ _ _ _ _ _ _ _ _ _ _ _ (by omega) hf hw (lv_sub hl [4, 5, 6, 3, 2, 1, 0] rfl)
set_option maxRecDepth 100000 in
set_option maxHeartbeats 4000000 in
theorem k_X11_town {p : Program} {l : Launch} {e : Env} {s : State} {m : MethodId} {args : Array Value} {below : List Frame} {meth : Method} {c : Code} {D : va_G} {cy : Nat → ClassId} {z0 : Nat} {ad : Nat → Nat} {X : va_W} {u : Nat × Nat} (hC : cx_C p s m args meth c cX11_town "RhymedThen" (Cond.code yX11_town cX11_town 11 (some .int)) 11 (some .int)) {z : (Int32 × mm_M)} {c0 : Nat} {x1 : Int32} {x2 : Int32} {x3 : Int32} {x4 : Int32} {M : mm_M} (hc0 : c0 ≤ M.2.2) (hf : f_X11_town x1 x2 x3 x4 M = some z) {H : Heap} {locs : List Loc} (hw : wd_in cx_T D cy z0 ad u M X s H locs) {ls : Array Slot} (hl : lv_has ls 11 [(0, .ref (ad 0)), (1, .int x1), (2, .int x2), (3, .int x3), (4, .int x4)]) : W p l e { frames := 8, cells := 2 * (z.2.2.2 - c0), slots := 52 * (z.2.2.2 - c0), locals := 242 } s m args below meth c H locs (2 * (M.2.2 - c0)) (52 * (M.2.2 - c0)) (MQ below (aq_i cx_T D cy z0 ad X z.1 z.2) args s (2 * (z.2.2.2 - c0)) (52 * (z.2.2.2 - c0)) (fun q => z0 ≤ q)) (F0 m 0 ls []) := by
  have hx := hC.1
  have hb := hC.2.1
  have hmz : M.2.2 ≤ z.2.2.2 := mo_X11_town hf
  unfold f_X11_town at hf
  refine lv_aload_n hx hb dX11_town_0 rfl (lv_at hl 0 rfl) ?_
  refine lv_iload_n hx hb dX11_town_1 rfl (lv_at hl 1 rfl) ?_
  obtain ⟨z1, ez1, hf⟩ := sq_e hf
  refine clc_Vi hC hw (c_X11_isWord ez1.symm) hd_X11_isWord cw_X11_185 (Nat.le_of_ble_eq_true rfl) rfl rfl (rest := []) hl.1 rfl (Nat.le_of_ble_eq_true rfl) ⟨Nat.le_of_ble_eq_true rfl, Nat.le_of_ble_eq_true rfl⟩ ⟨(show 2 * (M.2.2 - c0) ≤ 2 * (z.2.2.2 - c0) by omega), (show 52 * (M.2.2 - c0) ≤ 52 * (z.2.2.2 - c0) by omega)⟩ rfl dX11_town_2 (fun H locs hw => ?_)
  refine lv_if_eq (tgt := 19) hx hb dX11_town_5 (by decide) (fun c2 => ?_) (fun c2 => ?_)
  · rw [if_pos c2] at hf
    refine lv_iconst (v := (-1)) hx hb dX11_town_19 (by decide) ?_
    refine W.widen (k := 2 * (z.2.2.2 - c0)) (n := 52 * (z.2.2.2 - c0)) (by omega) (by omega) ?_
    have hz := Option.some.inj hf
    subst hz
    exact rta_i hC hw dX11_town_20
  · rw [if_neg c2] at hf
    refine lv_aload_n hx hb dX11_town_8 rfl (lv_at hl 0 rfl) ?_
    refine lv_iload_n hx hb dX11_town_9 rfl (lv_at hl 2 rfl) ?_
    refine lv_iload_n hx hb dX11_town_10 rfl (lv_at hl 3 rfl) ?_
    refine lv_iload hx hb dX11_town_11 (lv_at hl 4 rfl) ?_
    obtain ⟨z3, ez3, hf⟩ := sq_e hf
    refine clc_Vi hC hw (c_X11_isThenAndThere ez3.symm) hd_X11_isThenAndThere cw_X11_188 (Nat.le_of_ble_eq_true rfl) rfl rfl (rest := []) hl.1 rfl (Nat.le_of_ble_eq_true rfl) ⟨Nat.le_of_ble_eq_true rfl, Nat.le_of_ble_eq_true rfl⟩ ⟨(show 2 * (M.2.2 - c0) ≤ 2 * (z.2.2.2 - c0) by omega), (show 52 * (M.2.2 - c0) ≤ 52 * (z.2.2.2 - c0) by omega)⟩ rfl dX11_town_13 (fun H locs hw => ?_)
    refine lv_if_ne (tgt := 21) hx hb dX11_town_16 (by decide) (fun c4 => ?_) (fun c4 => ?_)
    · rw [if_neg c4] at hf
      refine lv_aload_n hx hb dX11_town_21 rfl (lv_at hl 0 rfl) ?_
      refine rg_p hC hw 0 (Nat.le_of_ble_eq_true rfl) rfl fd_X11_2 wf_X11_26 (q := 5) rfl dX11_town_22 ?_
      refine lv_aload_n hx hb dX11_town_25 rfl (lv_at hl 0 rfl) ?_
      refine rg_p hC hw 0 (Nat.le_of_ble_eq_true rfl) rfl fd_X11_3 wf_X11_35 (q := 14) rfl dX11_town_26 ?_
      refine lv_iload_n hx hb dX11_town_29 rfl (lv_at hl 2 rfl) ?_
      refine lv_iload_n hx hb dX11_town_30 rfl (lv_at hl 3 rfl) ?_
      refine lv_iload hx hb dX11_town_31 (lv_at hl 4 rfl) ?_
      obtain ⟨z5, ez5, hf⟩ := bd_e hf
      have mz5 : M.2.2 ≤ z5.2.2.2 := mo_X3_courseAt ez5
      have hnz : z5.2.2.2 ≤ z.2.2.2 := mo_X11_town_36 hf
      refine cla_Vi hC hw (c_X3_courseAt ez5) hd_X3_courseAt cw_X11_195 (Nat.le_of_ble_eq_true rfl) rfl rfl (rest := [.ref (ad 5)]) hl.1 rfl (Nat.le_of_ble_eq_true rfl) ⟨Nat.le_of_ble_eq_true rfl, Nat.le_of_ble_eq_true rfl⟩ ⟨(show 2 * (M.2.2 - c0) + 2 * (z5.2.2.2 - M.2.2) ≤ 2 * (z.2.2.2 - c0) by omega), (show 52 * (M.2.2 - c0) + 52 * (z5.2.2.2 - M.2.2) ≤ 52 * (z.2.2.2 - c0) by omega)⟩ rfl dX11_town_33 (fun u H locs hw => ?_)
      refine W.widen (k := 2 * (z5.2.2.2 - c0)) (n := 52 * (z5.2.2.2 - c0)) (by omega) (by omega) ?_
      exact k_X11_town_36 hC (by omega) hf hw (lv_sub hl [0, 1, 2] rfl)
    · rw [if_pos c4] at hf
      refine lv_iconst (v := (-1)) hx hb dX11_town_19 (by decide) ?_
      refine W.widen (k := 2 * (z.2.2.2 - c0)) (n := 52 * (z.2.2.2 - c0)) (by omega) (by omega) ?_
      have hz := Option.some.inj hf
      subst hz
      exact rta_i hC hw dX11_town_20
set_option maxRecDepth 100000 in
theorem c_X11_town {l : Launch} {D : va_G} {cy : Nat → ClassId} {z0 : Nat} {ad : Nat → Nat} {u : Nat × Nat} {X : va_W} {z : (Int32 × mm_M)} {x1 : Int32} {x2 : Int32} {x3 : Int32} {x4 : Int32} {M : mm_M} (hf : f_X11_town x1 x2 x3 x4 M = some z) : ca_i cx_T l yX11_town (Cond.code yX11_town cX11_town 11 (some .int)) 8 242 D cy z0 ad u M X [.ref (ad 0), .int x1, .int x2, .int x3, .int x4] z.1 z.2 := by
  refine bga_i (by decide) (fun p e s m below meth c hC hw => ?_)
  refine en_t (Nat.le_of_ble_eq_true rfl) (fun ls hl => ?_)
  have hl : lv_has ls 11 [(0, .ref (ad 0)), (1, .int x1), (2, .int x2), (3, .int x3), (4, .int x4)] := hl
  refine W.widen (k := 2 * (M.2.2 - M.2.2)) (n := 52 * (M.2.2 - M.2.2)) (by omega) (by omega) ?_
  exact k_X11_town hC (Nat.le_refl _) hf hw hl
set_option maxRecDepth 100000 in
set_option maxHeartbeats 4000000 in
theorem k_X3_courseSwapped_72 {p : Program} {l : Launch} {e : Env} {s : State} {m : MethodId} {args : Array Value} {below : List Frame} {meth : Method} {c : Code} {D : va_G} {cy : Nat → ClassId} {z0 : Nat} {ad : Nat → Nat} {X : va_W} {u : Nat × Nat} (hC : cx_C p s m args meth c cX3_courseSwapped "RhymedThen$Past" (Cond.code yX3_courseSwapped cX3_courseSwapped 8 (some .int)) 8 (some .int)) {z : (Int32 × mm_M)} {c0 : Nat} {x1 : Int32} {x2 : Int32} {x3 : Int32} {x4 : Int32} {x6 : Int32} {t0 : Int32} {M : mm_M} (hc0 : c0 ≤ M.2.2) {q6 : Int32 → Int32 → Int32 → Int32 → Int32 → Int32 → mm_M → Option (Int32 × mm_M)} (hq6 : ∀ (x1 : Int32) (x2 : Int32) (x3 : Int32) (x4 : Int32) (x5 : Int32) (x6 : Int32) (M : mm_M) (u : Nat × Nat) (H : Heap) (locs : List Loc) (ls : Array Slot), c0 ≤ M.2.2 → q6 x1 x2 x3 x4 x5 x6 M = some z → wd_in cx_T D cy z0 ad u M X s H locs → lv_has ls 8 [(0, .ref (ad 14)), (1, .int x1), (2, .int x2), (3, .int x3), (4, .int x4), (5, .int x5), (6, .int x6)] → W p l e { frames := 5, cells := 2 * (z.2.2.2 - c0), slots := 52 * (z.2.2.2 - c0), locals := 164 } s m args below meth c H locs (2 * (M.2.2 - c0)) (52 * (M.2.2 - c0)) (MQ below (aq_i cx_T D cy z0 ad X z.1 z.2) args s (2 * (z.2.2.2 - c0)) (52 * (z.2.2.2 - c0)) (fun q => z0 ≤ q)) (F0 m 6 ls [])) (hm6 : ∀ (x1 : Int32) (x2 : Int32) (x3 : Int32) (x4 : Int32) (x5 : Int32) (x6 : Int32) (M : mm_M), q6 x1 x2 x3 x4 x5 x6 M = some z → M.2.2 ≤ z.2.2.2) (hf : f_X3_courseSwapped_72 q6 x1 x2 x3 x4 x6 t0 M = some z) {H : Heap} {locs : List Loc} (hw : wd_in cx_T D cy z0 ad u M X s H locs) {ls : Array Slot} (hl : lv_has ls 8 [(0, .ref (ad 14)), (1, .int x1), (2, .int x2), (3, .int x3), (4, .int x4), (6, .int x6)]) : W p l e { frames := 5, cells := 2 * (z.2.2.2 - c0), slots := 52 * (z.2.2.2 - c0), locals := 164 } s m args below meth c H locs (2 * (M.2.2 - c0)) (52 * (M.2.2 - c0)) (MQ below (aq_i cx_T D cy z0 ad X z.1 z.2) args s (2 * (z.2.2.2 - c0)) (52 * (z.2.2.2 - c0)) (fun q => z0 ≤ q)) (F0 m 72 ls [.int t0]) := by
  have hx := hC.1
  have hb := hC.2.1
  have hmz : M.2.2 ≤ z.2.2.2 := mo_X3_courseSwapped_72 hm6 hf
  unfold f_X3_courseSwapped_72 at hf
  refine lv_istore (lv' := [(5, .int t0), (0, .ref (ad 14)), (1, .int x1), (2, .int x2), (3, .int x3), (4, .int x4), (6, .int x6)]) hx hb dX3_courseSwapped_72 hl (by decide) rfl (fun ls hl => ?_)
  obtain ⟨y9, ey9, hf⟩ := sq_e hf
  refine lv_iinc (v := y9) (lv' := [(6, .int y9), (5, .int t0), (0, .ref (ad 14)), (1, .int x1), (2, .int x2), (3, .int x3), (4, .int x4)]) hx hb dX3_courseSwapped_74 hl (k := 6) rfl (by rw [ey9]; rfl) (by decide) rfl (fun ls hl => ?_)
  refine lv_goto (tgt := 6) hx hb dX3_courseSwapped_77 (by decide) ?_
  refine W.widen (k := 2 * (M.2.2 - c0)) (n := 52 * (M.2.2 - c0)) (by omega) (by omega) ?_
  exact hq6 _ _ _ _ _ _ _ _ _ _ _ (by omega) hf hw (lv_sub hl [2, 3, 4, 5, 6, 1, 0] rfl)
set_option maxRecDepth 100000 in
set_option maxHeartbeats 4000000 in
theorem k_X3_courseSwapped_69 {p : Program} {l : Launch} {e : Env} {s : State} {m : MethodId} {args : Array Value} {below : List Frame} {meth : Method} {c : Code} {D : va_G} {cy : Nat → ClassId} {z0 : Nat} {ad : Nat → Nat} {X : va_W} {u : Nat × Nat} (hC : cx_C p s m args meth c cX3_courseSwapped "RhymedThen$Past" (Cond.code yX3_courseSwapped cX3_courseSwapped 8 (some .int)) 8 (some .int)) {z : (Int32 × mm_M)} {c0 : Nat} {x1 : Int32} {x2 : Int32} {x3 : Int32} {x4 : Int32} {x6 : Int32} {t1 : Int32} {t2 : Int32} {M : mm_M} (hc0 : c0 ≤ M.2.2) {q6 : Int32 → Int32 → Int32 → Int32 → Int32 → Int32 → mm_M → Option (Int32 × mm_M)} (hq6 : ∀ (x1 : Int32) (x2 : Int32) (x3 : Int32) (x4 : Int32) (x5 : Int32) (x6 : Int32) (M : mm_M) (u : Nat × Nat) (H : Heap) (locs : List Loc) (ls : Array Slot), c0 ≤ M.2.2 → q6 x1 x2 x3 x4 x5 x6 M = some z → wd_in cx_T D cy z0 ad u M X s H locs → lv_has ls 8 [(0, .ref (ad 14)), (1, .int x1), (2, .int x2), (3, .int x3), (4, .int x4), (5, .int x5), (6, .int x6)] → W p l e { frames := 5, cells := 2 * (z.2.2.2 - c0), slots := 52 * (z.2.2.2 - c0), locals := 164 } s m args below meth c H locs (2 * (M.2.2 - c0)) (52 * (M.2.2 - c0)) (MQ below (aq_i cx_T D cy z0 ad X z.1 z.2) args s (2 * (z.2.2.2 - c0)) (52 * (z.2.2.2 - c0)) (fun q => z0 ≤ q)) (F0 m 6 ls [])) (hm6 : ∀ (x1 : Int32) (x2 : Int32) (x3 : Int32) (x4 : Int32) (x5 : Int32) (x6 : Int32) (M : mm_M), q6 x1 x2 x3 x4 x5 x6 M = some z → M.2.2 ≤ z.2.2.2) (hf : f_X3_courseSwapped_69 q6 x1 x2 x3 x4 x6 t1 t2 M = some z) {H : Heap} {locs : List Loc} (hw : wd_in cx_T D cy z0 ad u M X s H locs) {ls : Array Slot} (hl : lv_has ls 8 [(0, .ref (ad 14)), (1, .int x1), (2, .int x2), (3, .int x3), (4, .int x4), (6, .int x6)]) : W p l e { frames := 5, cells := 2 * (z.2.2.2 - c0), slots := 52 * (z.2.2.2 - c0), locals := 164 } s m args below meth c H locs (2 * (M.2.2 - c0)) (52 * (M.2.2 - c0)) (MQ below (aq_i cx_T D cy z0 ad X z.1 z.2) args s (2 * (z.2.2.2 - c0)) (52 * (z.2.2.2 - c0)) (fun q => z0 ≤ q)) (F0 m 69 ls [.int t2, .int t1, .ref (ad 5)]) := by
  have hx := hC.1
  have hb := hC.2.1
  have hmz : M.2.2 ≤ z.2.2.2 := mo_X3_courseSwapped_69 hm6 hf
  unfold f_X3_courseSwapped_69 at hf
  obtain ⟨z8, ez8, hf⟩ := bd_e hf
  have mz8 : M.2.2 ≤ z8.2.2.2 := mo_X9_courseAfter ez8
  have hnz : z8.2.2.2 ≤ z.2.2.2 := mo_X3_courseSwapped_72 hm6 hf
  refine cla_Vi hC hw (c_X9_courseAfter ez8) hd_X9_courseAfter cw_X3_60 (Nat.le_of_ble_eq_true rfl) rfl rfl (rest := []) hl.1 rfl (Nat.le_of_ble_eq_true rfl) ⟨Nat.le_of_ble_eq_true rfl, Nat.le_of_ble_eq_true rfl⟩ ⟨(show 2 * (M.2.2 - c0) + 2 * (z8.2.2.2 - M.2.2) ≤ 2 * (z.2.2.2 - c0) by omega), (show 52 * (M.2.2 - c0) + 52 * (z8.2.2.2 - M.2.2) ≤ 52 * (z.2.2.2 - c0) by omega)⟩ rfl dX3_courseSwapped_69 (fun u H locs hw => ?_)
  refine W.widen (k := 2 * (z8.2.2.2 - c0)) (n := 52 * (z8.2.2.2 - c0)) (by omega) (by omega) ?_
  exact k_X3_courseSwapped_72 hC (by omega) hq6 hm6 hf hw (lv_sub hl [0, 1, 2, 3, 4, 5] rfl)
set_option maxRecDepth 100000 in
set_option maxHeartbeats 4000000 in
theorem k_X3_courseSwapped_6 {p : Program} {l : Launch} {e : Env} {s : State} {m : MethodId} {args : Array Value} {below : List Frame} {meth : Method} {c : Code} {D : va_G} {cy : Nat → ClassId} {z0 : Nat} {ad : Nat → Nat} {X : va_W} {u : Nat × Nat} (hC : cx_C p s m args meth c cX3_courseSwapped "RhymedThen$Past" (Cond.code yX3_courseSwapped cX3_courseSwapped 8 (some .int)) 8 (some .int)) {z : (Int32 × mm_M)} {c0 : Nat} {x1 : Int32} {x2 : Int32} {x3 : Int32} {x4 : Int32} {x5 : Int32} {x6 : Int32} {M : mm_M} (hc0 : c0 ≤ M.2.2) {q6 : Int32 → Int32 → Int32 → Int32 → Int32 → Int32 → mm_M → Option (Int32 × mm_M)} (hq6 : ∀ (x1 : Int32) (x2 : Int32) (x3 : Int32) (x4 : Int32) (x5 : Int32) (x6 : Int32) (M : mm_M) (u : Nat × Nat) (H : Heap) (locs : List Loc) (ls : Array Slot), c0 ≤ M.2.2 → q6 x1 x2 x3 x4 x5 x6 M = some z → wd_in cx_T D cy z0 ad u M X s H locs → lv_has ls 8 [(0, .ref (ad 14)), (1, .int x1), (2, .int x2), (3, .int x3), (4, .int x4), (5, .int x5), (6, .int x6)] → W p l e { frames := 5, cells := 2 * (z.2.2.2 - c0), slots := 52 * (z.2.2.2 - c0), locals := 164 } s m args below meth c H locs (2 * (M.2.2 - c0)) (52 * (M.2.2 - c0)) (MQ below (aq_i cx_T D cy z0 ad X z.1 z.2) args s (2 * (z.2.2.2 - c0)) (52 * (z.2.2.2 - c0)) (fun q => z0 ≤ q)) (F0 m 6 ls [])) (hm6 : ∀ (x1 : Int32) (x2 : Int32) (x3 : Int32) (x4 : Int32) (x5 : Int32) (x6 : Int32) (M : mm_M), q6 x1 x2 x3 x4 x5 x6 M = some z → M.2.2 ≤ z.2.2.2) (hf : f_X3_courseSwapped_6 q6 x1 x2 x3 x4 x5 x6 M = some z) {H : Heap} {locs : List Loc} (hw : wd_in cx_T D cy z0 ad u M X s H locs) {ls : Array Slot} (hl : lv_has ls 8 [(0, .ref (ad 14)), (1, .int x1), (2, .int x2), (3, .int x3), (4, .int x4), (5, .int x5), (6, .int x6)]) : W p l e { frames := 5, cells := 2 * (z.2.2.2 - c0), slots := 52 * (z.2.2.2 - c0), locals := 164 } s m args below meth c H locs (2 * (M.2.2 - c0)) (52 * (M.2.2 - c0)) (MQ below (aq_i cx_T D cy z0 ad X z.1 z.2) args s (2 * (z.2.2.2 - c0)) (52 * (z.2.2.2 - c0)) (fun q => z0 ≤ q)) (F0 m 6 ls []) := by
  have hx := hC.1
  have hb := hC.2.1
  have hmz : M.2.2 ≤ z.2.2.2 := mo_X3_courseSwapped_6 hm6 hf
  unfold f_X3_courseSwapped_6 at hf
  refine lv_iload hx hb dX3_courseSwapped_6 (lv_at hl 6 rfl) ?_
  refine lv_aload_n hx hb dX3_courseSwapped_8 rfl (lv_at hl 0 rfl) ?_
  refine rg_i hC hw 14 (Nat.le_of_ble_eq_true rfl) rfl fd_X3_3 wf_X3_19 dX3_courseSwapped_9 ?_
  refine lv_icmp_ge (tgt := 80) hx hb dX3_courseSwapped_12 (by decide) (fun c1 => ?_) (fun c1 => ?_)
  · rw [if_pos c1] at hf
    refine lv_iload hx hb dX3_courseSwapped_80 (lv_at hl 5 rfl) ?_
    refine W.widen (k := 2 * (z.2.2.2 - c0)) (n := 52 * (z.2.2.2 - c0)) (by omega) (by omega) ?_
    have hz := Option.some.inj hf
    subst hz
    exact rta_i hC hw dX3_courseSwapped_82
  · rw [if_neg c1] at hf
    refine lv_aload_n hx hb dX3_courseSwapped_15 rfl (lv_at hl 0 rfl) ?_
    refine rg_p hC hw 14 (Nat.le_of_ble_eq_true rfl) rfl fd_X3_5 wf_X3_25 (q := 17) rfl dX3_courseSwapped_16 ?_
    refine lv_iload_n hx hb dX3_courseSwapped_19 rfl (lv_at hl 1 rfl) ?_
    obtain ⟨h2, hf⟩ := ck_e hf
    refine ra_l hC hw 17 (Nat.le_of_ble_eq_true rfl) rfl h2 dX3_courseSwapped_20 ?_
    refine lv_iload hx hb dX3_courseSwapped_21 (lv_at hl 6 rfl) ?_
    obtain ⟨z3, ez3, hf⟩ := sq_e hf
    refine clc_Si hC hw (c_X3_yearIn ez3.symm) hd_X3_yearIn cw_X3_40 (rest := []) hl.1 rfl (Nat.le_of_ble_eq_true rfl) ⟨Nat.le_of_ble_eq_true rfl, Nat.le_of_ble_eq_true rfl⟩ ⟨(show 2 * (M.2.2 - c0) ≤ 2 * (z.2.2.2 - c0) by omega), (show 52 * (M.2.2 - c0) ≤ 52 * (z.2.2.2 - c0) by omega)⟩ rfl dX3_courseSwapped_23 (fun H locs hw => ?_)
    refine lv_iload_n hx hb dX3_courseSwapped_26 rfl (lv_at hl 2 rfl) ?_
    refine lv_icmp_gt (tgt := 80) hx hb dX3_courseSwapped_27 (by decide) (fun c4 => ?_) (fun c4 => ?_)
    · rw [if_pos c4] at hf
      refine lv_iload hx hb dX3_courseSwapped_80 (lv_at hl 5 rfl) ?_
      refine W.widen (k := 2 * (z.2.2.2 - c0)) (n := 52 * (z.2.2.2 - c0)) (by omega) (by omega) ?_
      have hz := Option.some.inj hf
      subst hz
      exact rta_i hC hw dX3_courseSwapped_82
    · rw [if_neg c4] at hf
      refine lv_aload_n hx hb dX3_courseSwapped_30 rfl (lv_at hl 0 rfl) ?_
      refine lv_iload_n hx hb dX3_courseSwapped_31 rfl (lv_at hl 1 rfl) ?_
      refine lv_iload hx hb dX3_courseSwapped_32 (lv_at hl 6 rfl) ?_
      obtain ⟨z5, ez5, hf⟩ := bd_e hf
      refine clc_Vi hC hw (c_X3_lawAt ez5) hd_X3_lawAt cw_X3_44 (Nat.le_of_ble_eq_true rfl) rfl rfl (rest := []) hl.1 rfl (Nat.le_of_ble_eq_true rfl) ⟨Nat.le_of_ble_eq_true rfl, Nat.le_of_ble_eq_true rfl⟩ ⟨(show 2 * (M.2.2 - c0) ≤ 2 * (z.2.2.2 - c0) by omega), (show 52 * (M.2.2 - c0) ≤ 52 * (z.2.2.2 - c0) by omega)⟩ rfl dX3_courseSwapped_34 (fun H locs hw => ?_)
      refine lv_istore (lv' := [(7, .int z5), (0, .ref (ad 14)), (1, .int x1), (2, .int x2), (3, .int x3), (4, .int x4), (5, .int x5), (6, .int x6)]) hx hb dX3_courseSwapped_37 hl (by decide) rfl (fun ls hl => ?_)
      refine lv_aload_n hx hb dX3_courseSwapped_39 rfl (lv_at hl 1 rfl) ?_
      refine rg_p hC hw 14 (Nat.le_of_ble_eq_true rfl) rfl fd_X3_0 wf_X3_32 (q := 5) rfl dX3_courseSwapped_40 ?_
      refine lv_iload hx hb dX3_courseSwapped_43 (lv_at hl 6 rfl) ?_
      refine lv_iload hx hb dX3_courseSwapped_45 (lv_at hl 0 rfl) ?_
      refine lv_iload_n hx hb dX3_courseSwapped_47 rfl (lv_at hl 4 rfl) ?_
      refine lv_icmp_ne (tgt := 56) hx hb dX3_courseSwapped_48 (by decide) (fun c6 => ?_) (fun c6 => ?_)
      · rw [if_neg c6] at hf
        refine lv_iload hx hb dX3_courseSwapped_56 (lv_at hl 0 rfl) ?_
        refine lv_iload hx hb dX3_courseSwapped_58 (lv_at hl 5 rfl) ?_
        refine lv_icmp_ne (tgt := 67) hx hb dX3_courseSwapped_60 (by decide) (fun c7 => ?_) (fun c7 => ?_)
        · rw [if_neg c7] at hf
          refine lv_iload hx hb dX3_courseSwapped_67 (lv_at hl 0 rfl) ?_
          refine W.widen (k := 2 * (M.2.2 - c0)) (n := 52 * (M.2.2 - c0)) (by omega) (by omega) ?_
          exact k_X3_courseSwapped_69 hC (by omega) hq6 hm6 hf hw (lv_sub hl [1, 2, 3, 4, 5, 7] rfl)
        · rw [if_pos c7] at hf
          refine lv_iload_n hx hb dX3_courseSwapped_63 rfl (lv_at hl 4 rfl) ?_
          refine lv_goto (tgt := 69) hx hb dX3_courseSwapped_64 (by decide) ?_
          refine W.widen (k := 2 * (M.2.2 - c0)) (n := 52 * (M.2.2 - c0)) (by omega) (by omega) ?_
          exact k_X3_courseSwapped_69 hC (by omega) hq6 hm6 hf hw (lv_sub hl [1, 2, 3, 4, 5, 7] rfl)
      · rw [if_pos c6] at hf
        refine lv_iload hx hb dX3_courseSwapped_51 (lv_at hl 5 rfl) ?_
        refine lv_goto (tgt := 69) hx hb dX3_courseSwapped_53 (by decide) ?_
        refine W.widen (k := 2 * (M.2.2 - c0)) (n := 52 * (M.2.2 - c0)) (by omega) (by omega) ?_
        exact k_X3_courseSwapped_69 hC (by omega) hq6 hm6 hf hw (lv_sub hl [1, 2, 3, 4, 5, 7] rfl)
set_option maxRecDepth 100000 in
set_option maxHeartbeats 4000000 in
theorem k_X3_courseSwapped_6l {p : Program} {l : Launch} {e : Env} {s : State} {m : MethodId} {args : Array Value} {below : List Frame} {meth : Method} {c : Code} {D : va_G} {cy : Nat → ClassId} {z0 : Nat} {ad : Nat → Nat} {X : va_W} (hC : cx_C p s m args meth c cX3_courseSwapped "RhymedThen$Past" (Cond.code yX3_courseSwapped cX3_courseSwapped 8 (some .int)) 8 (some .int)) {z : (Int32 × mm_M)} {c0 : Nat} : ∀ (n : Nat) (x1 : Int32) (x2 : Int32) (x3 : Int32) (x4 : Int32) (x5 : Int32) (x6 : Int32) (M : mm_M) (u : Nat × Nat) (H : Heap) (locs : List Loc) (ls : Array Slot), c0 ≤ M.2.2 → f_X3_courseSwapped_6l n x1 x2 x3 x4 x5 x6 M = some z → wd_in cx_T D cy z0 ad u M X s H locs → lv_has ls 8 [(0, .ref (ad 14)), (1, .int x1), (2, .int x2), (3, .int x3), (4, .int x4), (5, .int x5), (6, .int x6)] → W p l e { frames := 5, cells := 2 * (z.2.2.2 - c0), slots := 52 * (z.2.2.2 - c0), locals := 164 } s m args below meth c H locs (2 * (M.2.2 - c0)) (52 * (M.2.2 - c0)) (MQ below (aq_i cx_T D cy z0 ad X z.1 z.2) args s (2 * (z.2.2.2 - c0)) (52 * (z.2.2.2 - c0)) (fun q => z0 ≤ q)) (F0 m 6 ls []) := by
  intro n
  induction n with
  | zero => intro x1 x2 x3 x4 x5 x6 M u H locs ls hc0 hf; exact absurd hf (by simp [f_X3_courseSwapped_6l])
  | succ n ih => intro x1 x2 x3 x4 x5 x6 M u H locs ls hc0 hf hw hl; exact k_X3_courseSwapped_6 hC hc0 ih (mo_X3_courseSwapped_6l n) hf hw hl
set_option maxRecDepth 100000 in
set_option maxHeartbeats 4000000 in
theorem k_X3_courseSwapped {p : Program} {l : Launch} {e : Env} {s : State} {m : MethodId} {args : Array Value} {below : List Frame} {meth : Method} {c : Code} {D : va_G} {cy : Nat → ClassId} {z0 : Nat} {ad : Nat → Nat} {X : va_W} {u : Nat × Nat} (hC : cx_C p s m args meth c cX3_courseSwapped "RhymedThen$Past" (Cond.code yX3_courseSwapped cX3_courseSwapped 8 (some .int)) 8 (some .int)) {z : (Int32 × mm_M)} {c0 : Nat} {x1 : Int32} {x2 : Int32} {x3 : Int32} {x4 : Int32} {M : mm_M} (hc0 : c0 ≤ M.2.2) (hf : f_X3_courseSwapped x1 x2 x3 x4 M = some z) {H : Heap} {locs : List Loc} (hw : wd_in cx_T D cy z0 ad u M X s H locs) {ls : Array Slot} (hl : lv_has ls 8 [(0, .ref (ad 14)), (1, .int x1), (2, .int x2), (3, .int x3), (4, .int x4)]) : W p l e { frames := 5, cells := 2 * (z.2.2.2 - c0), slots := 52 * (z.2.2.2 - c0), locals := 164 } s m args below meth c H locs (2 * (M.2.2 - c0)) (52 * (M.2.2 - c0)) (MQ below (aq_i cx_T D cy z0 ad X z.1 z.2) args s (2 * (z.2.2.2 - c0)) (52 * (z.2.2.2 - c0)) (fun q => z0 ≤ q)) (F0 m 0 ls []) := by
  have hx := hC.1
  have hb := hC.2.1
  have hmz : M.2.2 ≤ z.2.2.2 := mo_X3_courseSwapped hf
  unfold f_X3_courseSwapped at hf
  refine lv_iconst (v := 0) hx hb dX3_courseSwapped_0 (by decide) ?_
  refine lv_istore (lv' := [(5, .int 0), (0, .ref (ad 14)), (1, .int x1), (2, .int x2), (3, .int x3), (4, .int x4)]) hx hb dX3_courseSwapped_1 hl (by decide) rfl (fun ls hl => ?_)
  refine lv_iconst (v := 0) hx hb dX3_courseSwapped_3 (by decide) ?_
  refine lv_istore (lv' := [(6, .int 0), (5, .int 0), (0, .ref (ad 14)), (1, .int x1), (2, .int x2), (3, .int x3), (4, .int x4)]) hx hb dX3_courseSwapped_4 hl (by decide) rfl (fun ls hl => ?_)
  refine W.widen (k := 2 * (M.2.2 - c0)) (n := 52 * (M.2.2 - c0)) (by omega) (by omega) ?_
  exact k_X3_courseSwapped_6l hC fu_ _ _ _ _ _ _ _ _ _ _ _ (by omega) hf hw (lv_sub hl [2, 3, 4, 5, 6, 1, 0] rfl)
set_option maxRecDepth 100000 in
theorem c_X3_courseSwapped {l : Launch} {D : va_G} {cy : Nat → ClassId} {z0 : Nat} {ad : Nat → Nat} {u : Nat × Nat} {X : va_W} {z : (Int32 × mm_M)} {x1 : Int32} {x2 : Int32} {x3 : Int32} {x4 : Int32} {M : mm_M} (hf : f_X3_courseSwapped x1 x2 x3 x4 M = some z) : ca_i cx_T l yX3_courseSwapped (Cond.code yX3_courseSwapped cX3_courseSwapped 8 (some .int)) 5 164 D cy z0 ad u M X [.ref (ad 14), .int x1, .int x2, .int x3, .int x4] z.1 z.2 := by
  refine bga_i (by decide) (fun p e s m below meth c hC hw => ?_)
  refine en_t (Nat.le_of_ble_eq_true rfl) (fun ls hl => ?_)
  have hl : lv_has ls 8 [(0, .ref (ad 14)), (1, .int x1), (2, .int x2), (3, .int x3), (4, .int x4)] := hl
  refine W.widen (k := 2 * (M.2.2 - M.2.2)) (n := 52 * (M.2.2 - M.2.2)) (by omega) (by omega) ?_
  exact k_X3_courseSwapped hC (Nat.le_refl _) hf hw hl
set_option maxRecDepth 100000 in
set_option maxHeartbeats 4000000 in
theorem k_X11_swap_110 {p : Program} {l : Launch} {e : Env} {s : State} {m : MethodId} {args : Array Value} {below : List Frame} {meth : Method} {c : Code} {D : va_G} {cy : Nat → ClassId} {z0 : Nat} {ad : Nat → Nat} {X : va_W} {u : Nat × Nat} (hC : cx_C p s m args meth c cX11_swap "RhymedThen" (Cond.code yX11_swap cX11_swap 7 (some .int)) 7 (some .int)) {z : (Int32 × mm_M)} {c0 : Nat} {x6 : Int32} {t1 : Int32} {M : mm_M} (hc0 : c0 ≤ M.2.2) (hf : f_X11_swap_110 x6 t1 M = some z) {H : Heap} {locs : List Loc} (hw : wd_in cx_T D cy z0 ad u M X s H locs) {ls : Array Slot} (hl : lv_has ls 7 [(6, .int x6)]) : W p l e { frames := 7, cells := 2 * (z.2.2.2 - c0), slots := 52 * (z.2.2.2 - c0), locals := 215 } s m args below meth c H locs (2 * (M.2.2 - c0)) (52 * (M.2.2 - c0)) (MQ below (aq_i cx_T D cy z0 ad X z.1 z.2) args s (2 * (z.2.2.2 - c0)) (52 * (z.2.2.2 - c0)) (fun q => z0 ≤ q)) (F0 m 110 ls [.int t1, .ref (ad 5)]) := by
  have hx := hC.1
  have hb := hC.2.1
  have hmz : M.2.2 ≤ z.2.2.2 := mo_X11_swap_110 hf
  unfold f_X11_swap_110 at hf
  refine lv_iload hx hb dX11_swap_110 (lv_at hl 0 rfl) ?_
  obtain ⟨z15, ez15, hf⟩ := bd_e hf
  refine clc_Vi hC hw (c_X9_differing ez15) hd_X9_differing cw_X11_248 (Nat.le_of_ble_eq_true rfl) rfl rfl (rest := []) hl.1 rfl (Nat.le_of_ble_eq_true rfl) ⟨Nat.le_of_ble_eq_true rfl, Nat.le_of_ble_eq_true rfl⟩ ⟨(show 2 * (M.2.2 - c0) ≤ 2 * (z.2.2.2 - c0) by omega), (show 52 * (M.2.2 - c0) ≤ 52 * (z.2.2.2 - c0) by omega)⟩ rfl dX11_swap_112 (fun H locs hw => ?_)
  refine W.widen (k := 2 * (z.2.2.2 - c0)) (n := 52 * (z.2.2.2 - c0)) (by omega) (by omega) ?_
  have hz := Option.some.inj hf
  subst hz
  exact rta_i hC hw dX11_swap_115
set_option maxRecDepth 100000 in
set_option maxHeartbeats 4000000 in
theorem k_X11_swap_92 {p : Program} {l : Launch} {e : Env} {s : State} {m : MethodId} {args : Array Value} {below : List Frame} {meth : Method} {c : Code} {D : va_G} {cy : Nat → ClassId} {z0 : Nat} {ad : Nat → Nat} {X : va_W} {u : Nat × Nat} (hC : cx_C p s m args meth c cX11_swap "RhymedThen" (Cond.code yX11_swap cX11_swap 7 (some .int)) 7 (some .int)) {z : (Int32 × mm_M)} {c0 : Nat} {x3 : Int32} {x4 : Int32} {x5 : Int32} {t0 : Int32} {M : mm_M} (hc0 : c0 ≤ M.2.2) (hf : f_X11_swap_92 x3 x4 x5 t0 M = some z) {H : Heap} {locs : List Loc} (hw : wd_in cx_T D cy z0 ad u M X s H locs) {ls : Array Slot} (hl : lv_has ls 7 [(0, .ref (ad 0)), (3, .int x3), (4, .int x4), (5, .int x5)]) : W p l e { frames := 7, cells := 2 * (z.2.2.2 - c0), slots := 52 * (z.2.2.2 - c0), locals := 215 } s m args below meth c H locs (2 * (M.2.2 - c0)) (52 * (M.2.2 - c0)) (MQ below (aq_i cx_T D cy z0 ad X z.1 z.2) args s (2 * (z.2.2.2 - c0)) (52 * (z.2.2.2 - c0)) (fun q => z0 ≤ q)) (F0 m 92 ls [.int t0]) := by
  have hx := hC.1
  have hb := hC.2.1
  have hmz : M.2.2 ≤ z.2.2.2 := mo_X11_swap_92 hf
  unfold f_X11_swap_92 at hf
  refine lv_istore (lv' := [(6, .int t0), (0, .ref (ad 0)), (3, .int x3), (4, .int x4), (5, .int x5)]) hx hb dX11_swap_92 hl (by decide) rfl (fun ls hl => ?_)
  refine lv_aload_n hx hb dX11_swap_94 rfl (lv_at hl 1 rfl) ?_
  refine rg_p hC hw 0 (Nat.le_of_ble_eq_true rfl) rfl fd_X11_2 wf_X11_26 (q := 5) rfl dX11_swap_95 ?_
  refine lv_aload_n hx hb dX11_swap_98 rfl (lv_at hl 1 rfl) ?_
  refine rg_p hC hw 0 (Nat.le_of_ble_eq_true rfl) rfl fd_X11_3 wf_X11_35 (q := 14) rfl dX11_swap_99 ?_
  refine lv_iload_n hx hb dX11_swap_102 rfl (lv_at hl 2 rfl) ?_
  refine lv_iload hx hb dX11_swap_103 (lv_at hl 3 rfl) ?_
  refine lv_iload hx hb dX11_swap_105 (lv_at hl 4 rfl) ?_
  obtain ⟨z14, ez14, hf⟩ := bd_e hf
  have mz14 : M.2.2 ≤ z14.2.2.2 := mo_X3_courseAt ez14
  have hnz : z14.2.2.2 ≤ z.2.2.2 := mo_X11_swap_110 hf
  refine cla_Vi hC hw (c_X3_courseAt ez14) hd_X3_courseAt cw_X11_195 (Nat.le_of_ble_eq_true rfl) rfl rfl (rest := [.ref (ad 5)]) hl.1 rfl (Nat.le_of_ble_eq_true rfl) ⟨Nat.le_of_ble_eq_true rfl, Nat.le_of_ble_eq_true rfl⟩ ⟨(show 2 * (M.2.2 - c0) + 2 * (z14.2.2.2 - M.2.2) ≤ 2 * (z.2.2.2 - c0) by omega), (show 52 * (M.2.2 - c0) + 52 * (z14.2.2.2 - M.2.2) ≤ 52 * (z.2.2.2 - c0) by omega)⟩ rfl dX11_swap_107 (fun u H locs hw => ?_)
  refine W.widen (k := 2 * (z14.2.2.2 - c0)) (n := 52 * (z14.2.2.2 - c0)) (by omega) (by omega) ?_
  exact k_X11_swap_110 hC (by omega) hf hw (lv_sub hl [0] rfl)
set_option maxRecDepth 100000 in
set_option maxHeartbeats 4000000 in
theorem k_X11_swap {p : Program} {l : Launch} {e : Env} {s : State} {m : MethodId} {args : Array Value} {below : List Frame} {meth : Method} {c : Code} {D : va_G} {cy : Nat → ClassId} {z0 : Nat} {ad : Nat → Nat} {X : va_W} {u : Nat × Nat} (hC : cx_C p s m args meth c cX11_swap "RhymedThen" (Cond.code yX11_swap cX11_swap 7 (some .int)) 7 (some .int)) {z : (Int32 × mm_M)} {c0 : Nat} {x1 : Int32} {x2 : Int32} {x3 : Int32} {x4 : Int32} {x5 : Int32} {M : mm_M} (hc0 : c0 ≤ M.2.2) (hf : f_X11_swap x1 x2 x3 x4 x5 M = some z) {H : Heap} {locs : List Loc} (hw : wd_in cx_T D cy z0 ad u M X s H locs) {ls : Array Slot} (hl : lv_has ls 7 [(0, .ref (ad 0)), (1, .int x1), (2, .int x2), (3, .int x3), (4, .int x4), (5, .int x5)]) : W p l e { frames := 7, cells := 2 * (z.2.2.2 - c0), slots := 52 * (z.2.2.2 - c0), locals := 215 } s m args below meth c H locs (2 * (M.2.2 - c0)) (52 * (M.2.2 - c0)) (MQ below (aq_i cx_T D cy z0 ad X z.1 z.2) args s (2 * (z.2.2.2 - c0)) (52 * (z.2.2.2 - c0)) (fun q => z0 ≤ q)) (F0 m 0 ls []) := by
  have hx := hC.1
  have hb := hC.2.1
  have hmz : M.2.2 ≤ z.2.2.2 := mo_X11_swap hf
  unfold f_X11_swap at hf
  refine lv_aload_n hx hb dX11_swap_0 rfl (lv_at hl 0 rfl) ?_
  refine lv_iload_n hx hb dX11_swap_1 rfl (lv_at hl 1 rfl) ?_
  obtain ⟨z1, ez1, hf⟩ := sq_e hf
  refine clc_Vi hC hw (c_X11_isLaw ez1.symm) hd_X11_isLaw cw_X11_235 (Nat.le_of_ble_eq_true rfl) rfl rfl (rest := []) hl.1 rfl (Nat.le_of_ble_eq_true rfl) ⟨Nat.le_of_ble_eq_true rfl, Nat.le_of_ble_eq_true rfl⟩ ⟨(show 2 * (M.2.2 - c0) ≤ 2 * (z.2.2.2 - c0) by omega), (show 52 * (M.2.2 - c0) ≤ 52 * (z.2.2.2 - c0) by omega)⟩ rfl dX11_swap_2 (fun H locs hw => ?_)
  refine lv_if_eq (tgt := 33) hx hb dX11_swap_5 (by decide) (fun c2 => ?_) (fun c2 => ?_)
  · rw [if_pos c2] at hf
    refine lv_iconst (v := (-1)) hx hb dX11_swap_33 (by decide) ?_
    refine W.widen (k := 2 * (z.2.2.2 - c0)) (n := 52 * (z.2.2.2 - c0)) (by omega) (by omega) ?_
    have hz := Option.some.inj hf
    subst hz
    exact rta_i hC hw dX11_swap_34
  · rw [if_neg c2] at hf
    refine lv_aload_n hx hb dX11_swap_8 rfl (lv_at hl 0 rfl) ?_
    refine lv_iload_n hx hb dX11_swap_9 rfl (lv_at hl 2 rfl) ?_
    obtain ⟨z3, ez3, hf⟩ := sq_e hf
    refine clc_Vi hC hw (c_X11_isLaw ez3.symm) hd_X11_isLaw cw_X11_235 (Nat.le_of_ble_eq_true rfl) rfl rfl (rest := []) hl.1 rfl (Nat.le_of_ble_eq_true rfl) ⟨Nat.le_of_ble_eq_true rfl, Nat.le_of_ble_eq_true rfl⟩ ⟨(show 2 * (M.2.2 - c0) ≤ 2 * (z.2.2.2 - c0) by omega), (show 52 * (M.2.2 - c0) ≤ 52 * (z.2.2.2 - c0) by omega)⟩ rfl dX11_swap_10 (fun H locs hw => ?_)
    refine lv_if_eq (tgt := 33) hx hb dX11_swap_13 (by decide) (fun c4 => ?_) (fun c4 => ?_)
    · rw [if_pos c4] at hf
      refine lv_iconst (v := (-1)) hx hb dX11_swap_33 (by decide) ?_
      refine W.widen (k := 2 * (z.2.2.2 - c0)) (n := 52 * (z.2.2.2 - c0)) (by omega) (by omega) ?_
      have hz := Option.some.inj hf
      subst hz
      exact rta_i hC hw dX11_swap_34
    · rw [if_neg c4] at hf
      refine lv_iload_n hx hb dX11_swap_16 rfl (lv_at hl 1 rfl) ?_
      refine lv_iload_n hx hb dX11_swap_17 rfl (lv_at hl 2 rfl) ?_
      refine lv_icmp_eq (tgt := 33) hx hb dX11_swap_18 (by decide) (fun c5 => ?_) (fun c5 => ?_)
      · rw [if_pos c5] at hf
        refine lv_iconst (v := (-1)) hx hb dX11_swap_33 (by decide) ?_
        refine W.widen (k := 2 * (z.2.2.2 - c0)) (n := 52 * (z.2.2.2 - c0)) (by omega) (by omega) ?_
        have hz := Option.some.inj hf
        subst hz
        exact rta_i hC hw dX11_swap_34
      · rw [if_neg c5] at hf
        refine lv_aload_n hx hb dX11_swap_21 rfl (lv_at hl 0 rfl) ?_
        refine lv_iload_n hx hb dX11_swap_22 rfl (lv_at hl 3 rfl) ?_
        refine lv_iload hx hb dX11_swap_23 (lv_at hl 4 rfl) ?_
        refine lv_iload hx hb dX11_swap_25 (lv_at hl 5 rfl) ?_
        obtain ⟨z6, ez6, hf⟩ := sq_e hf
        refine clc_Vi hC hw (c_X11_isThenAndThere ez6.symm) hd_X11_isThenAndThere cw_X11_188 (Nat.le_of_ble_eq_true rfl) rfl rfl (rest := []) hl.1 rfl (Nat.le_of_ble_eq_true rfl) ⟨Nat.le_of_ble_eq_true rfl, Nat.le_of_ble_eq_true rfl⟩ ⟨(show 2 * (M.2.2 - c0) ≤ 2 * (z.2.2.2 - c0) by omega), (show 52 * (M.2.2 - c0) ≤ 52 * (z.2.2.2 - c0) by omega)⟩ rfl dX11_swap_27 (fun H locs hw => ?_)
        refine lv_if_ne (tgt := 35) hx hb dX11_swap_30 (by decide) (fun c7 => ?_) (fun c7 => ?_)
        · rw [if_neg c7] at hf
          refine lv_aload_n hx hb dX11_swap_35 rfl (lv_at hl 0 rfl) ?_
          refine rg_p hC hw 0 (Nat.le_of_ble_eq_true rfl) rfl fd_X11_3 wf_X11_35 (q := 14) rfl dX11_swap_36 ?_
          refine lv_iload_n hx hb dX11_swap_39 rfl (lv_at hl 1 rfl) ?_
          refine lv_iload_n hx hb dX11_swap_40 rfl (lv_at hl 3 rfl) ?_
          refine lv_iload hx hb dX11_swap_41 (lv_at hl 4 rfl) ?_
          refine lv_iload hx hb dX11_swap_43 (lv_at hl 5 rfl) ?_
          obtain ⟨z8, ez8, hf⟩ := bd_e hf
          refine clc_Vi hC hw (c_X3_hasCome ez8) hd_X3_hasCome cw_X11_238 (Nat.le_of_ble_eq_true rfl) rfl rfl (rest := []) hl.1 rfl (Nat.le_of_ble_eq_true rfl) ⟨Nat.le_of_ble_eq_true rfl, Nat.le_of_ble_eq_true rfl⟩ ⟨(show 2 * (M.2.2 - c0) ≤ 2 * (z.2.2.2 - c0) by omega), (show 52 * (M.2.2 - c0) ≤ 52 * (z.2.2.2 - c0) by omega)⟩ rfl dX11_swap_45 (fun H locs hw => ?_)
          refine lv_if_eq (tgt := 67) hx hb dX11_swap_48 (by decide) (fun c9 => ?_) (fun c9 => ?_)
          · rw [if_pos c9] at hf
            refine lv_iconst (v := (-1)) hx hb dX11_swap_67 (by decide) ?_
            refine W.widen (k := 2 * (z.2.2.2 - c0)) (n := 52 * (z.2.2.2 - c0)) (by omega) (by omega) ?_
            have hz := Option.some.inj hf
            subst hz
            exact rta_i hC hw dX11_swap_68
          · rw [if_neg c9] at hf
            refine lv_aload_n hx hb dX11_swap_51 rfl (lv_at hl 0 rfl) ?_
            refine rg_p hC hw 0 (Nat.le_of_ble_eq_true rfl) rfl fd_X11_3 wf_X11_35 (q := 14) rfl dX11_swap_52 ?_
            refine lv_iload_n hx hb dX11_swap_55 rfl (lv_at hl 2 rfl) ?_
            refine lv_iload_n hx hb dX11_swap_56 rfl (lv_at hl 3 rfl) ?_
            refine lv_iload hx hb dX11_swap_57 (lv_at hl 4 rfl) ?_
            refine lv_iload hx hb dX11_swap_59 (lv_at hl 5 rfl) ?_
            obtain ⟨z10, ez10, hf⟩ := bd_e hf
            refine clc_Vi hC hw (c_X3_hasCome ez10) hd_X3_hasCome cw_X11_238 (Nat.le_of_ble_eq_true rfl) rfl rfl (rest := []) hl.1 rfl (Nat.le_of_ble_eq_true rfl) ⟨Nat.le_of_ble_eq_true rfl, Nat.le_of_ble_eq_true rfl⟩ ⟨(show 2 * (M.2.2 - c0) ≤ 2 * (z.2.2.2 - c0) by omega), (show 52 * (M.2.2 - c0) ≤ 52 * (z.2.2.2 - c0) by omega)⟩ rfl dX11_swap_61 (fun H locs hw => ?_)
            refine lv_if_ne (tgt := 69) hx hb dX11_swap_64 (by decide) (fun c11 => ?_) (fun c11 => ?_)
            · rw [if_neg c11] at hf
              refine lv_aload_n hx hb dX11_swap_69 rfl (lv_at hl 0 rfl) ?_
              refine rg_p hC hw 0 (Nat.le_of_ble_eq_true rfl) rfl fd_X11_3 wf_X11_35 (q := 14) rfl dX11_swap_70 ?_
              refine lv_iload_n hx hb dX11_swap_73 rfl (lv_at hl 3 rfl) ?_
              refine lv_iload hx hb dX11_swap_74 (lv_at hl 4 rfl) ?_
              refine lv_aload_n hx hb dX11_swap_76 rfl (lv_at hl 0 rfl) ?_
              refine rg_p hC hw 0 (Nat.le_of_ble_eq_true rfl) rfl fd_X11_3 wf_X11_35 (q := 14) rfl dX11_swap_77 ?_
              refine rg_p hC hw 14 (Nat.le_of_ble_eq_true rfl) rfl fd_X3_1 wf_X11_166 (q := 15) rfl dX11_swap_80 ?_
              refine lv_iload hx hb dX11_swap_83 (lv_at hl 5 rfl) ?_
              obtain ⟨h12, hf⟩ := ck_e hf
              refine ra_i hC hw 15 (Nat.le_of_ble_eq_true rfl) rfl h12 dX11_swap_85 ?_
              refine lv_isub hx hb dX11_swap_86 ?_
              refine lv_iload_n hx hb dX11_swap_87 rfl (lv_at hl 1 rfl) ?_
              refine lv_iload_n hx hb dX11_swap_88 rfl (lv_at hl 2 rfl) ?_
              obtain ⟨z13, ez13, hf⟩ := bd_e hf
              have mz13 : M.2.2 ≤ z13.2.2.2 := mo_X3_courseSwapped ez13
              have hnz : z13.2.2.2 ≤ z.2.2.2 := mo_X11_swap_92 hf
              refine cla_Vi hC hw (c_X3_courseSwapped ez13) hd_X3_courseSwapped cw_X11_437 (Nat.le_of_ble_eq_true rfl) rfl rfl (rest := []) hl.1 rfl (Nat.le_of_ble_eq_true rfl) ⟨Nat.le_of_ble_eq_true rfl, Nat.le_of_ble_eq_true rfl⟩ ⟨(show 2 * (M.2.2 - c0) + 2 * (z13.2.2.2 - M.2.2) ≤ 2 * (z.2.2.2 - c0) by omega), (show 52 * (M.2.2 - c0) + 52 * (z13.2.2.2 - M.2.2) ≤ 52 * (z.2.2.2 - c0) by omega)⟩ rfl dX11_swap_89 (fun u H locs hw => ?_)
              refine W.widen (k := 2 * (z13.2.2.2 - c0)) (n := 52 * (z13.2.2.2 - c0)) (by omega) (by omega) ?_
              exact k_X11_swap_92 hC (by omega) hf hw (lv_sub hl [0, 3, 4, 5] rfl)
            · rw [if_pos c11] at hf
              refine lv_iconst (v := (-1)) hx hb dX11_swap_67 (by decide) ?_
              refine W.widen (k := 2 * (z.2.2.2 - c0)) (n := 52 * (z.2.2.2 - c0)) (by omega) (by omega) ?_
              have hz := Option.some.inj hf
              subst hz
              exact rta_i hC hw dX11_swap_68
        · rw [if_pos c7] at hf
          refine lv_iconst (v := (-1)) hx hb dX11_swap_33 (by decide) ?_
          refine W.widen (k := 2 * (z.2.2.2 - c0)) (n := 52 * (z.2.2.2 - c0)) (by omega) (by omega) ?_
          have hz := Option.some.inj hf
          subst hz
          exact rta_i hC hw dX11_swap_34
set_option maxRecDepth 100000 in
theorem c_X11_swap {l : Launch} {D : va_G} {cy : Nat → ClassId} {z0 : Nat} {ad : Nat → Nat} {u : Nat × Nat} {X : va_W} {z : (Int32 × mm_M)} {x1 : Int32} {x2 : Int32} {x3 : Int32} {x4 : Int32} {x5 : Int32} {M : mm_M} (hf : f_X11_swap x1 x2 x3 x4 x5 M = some z) : ca_i cx_T l yX11_swap (Cond.code yX11_swap cX11_swap 7 (some .int)) 7 215 D cy z0 ad u M X [.ref (ad 0), .int x1, .int x2, .int x3, .int x4, .int x5] z.1 z.2 := by
  refine bga_i (by decide) (fun p e s m below meth c hC hw => ?_)
  refine en_t (Nat.le_of_ble_eq_true rfl) (fun ls hl => ?_)
  have hl : lv_has ls 7 [(0, .ref (ad 0)), (1, .int x1), (2, .int x2), (3, .int x3), (4, .int x4), (5, .int x5)] := hl
  refine W.widen (k := 2 * (M.2.2 - M.2.2)) (n := 52 * (M.2.2 - M.2.2)) (by omega) (by omega) ?_
  exact k_X11_swap hC (Nat.le_refl _) hf hw hl
set_option maxRecDepth 100000 in
set_option maxHeartbeats 4000000 in
theorem k_X11_keep {p : Program} {l : Launch} {e : Env} {s : State} {m : MethodId} {args : Array Value} {below : List Frame} {meth : Method} {c : Code} {D : va_G} {cy : Nat → ClassId} {z0 : Nat} {ad : Nat → Nat} {X : va_W} {u : Nat × Nat} (hC : cx_C p s m args meth c cX11_keep "RhymedThen" (Cond.code yX11_keep cX11_keep 2 (some .boolean)) 2 (some .boolean)) {z : (Int32 × mm_M)} {x1 : Int32} {M : mm_M} (hf : f_X11_keep x1 M = some z) {H : Heap} {locs : List Loc} (hw : wd_in cx_T D cy z0 ad u M X s H locs) {ls : Array Slot} (hl : lv_has ls 2 [(0, .ref (ad 0)), (1, .int x1)]) : W p l e { frames := 2, cells := 0, slots := 0, locals := 84 } s m args below meth c H locs 0 0 (MQ below (cq_i cx_T D cy z0 ad u X z.1 z.2) args s 0 0 (fun q => z0 ≤ q)) (F0 m 0 ls []) := by
  have hx := hC.1
  have hb := hC.2.1
  unfold f_X11_keep at hf
  refine lv_iload_n hx hb dX11_keep_0 rfl (lv_at hl 1 rfl) ?_
  refine lv_iconst (v := 3) hx hb dX11_keep_1 (by decide) ?_
  obtain ⟨z1, ez1, hf⟩ := sq_e hf
  refine clc_Si hC hw (c_X11_isBelow ez1.symm) hd_X11_isBelow cw_X11_101 (rest := []) hl.1 rfl (Nat.le_of_ble_eq_true rfl) ⟨Nat.le_of_ble_eq_true rfl, Nat.le_of_ble_eq_true rfl⟩ ⟨Nat.zero_le _, Nat.zero_le _⟩ rfl dX11_keep_2 (fun H locs hw => ?_)
  refine lv_if_ne (tgt := 10) hx hb dX11_keep_5 (by decide) (fun c2 => ?_) (fun c2 => ?_)
  · rw [if_neg c2] at hf
    refine lv_aload_n hx hb dX11_keep_10 rfl (lv_at hl 0 rfl) ?_
    refine rg_p hC hw 0 (Nat.le_of_ble_eq_true rfl) rfl fd_X11_8 wf_X11_71 (q := 50) rfl dX11_keep_11 ?_
    refine lv_iload_n hx hb dX11_keep_14 rfl (lv_at hl 1 rfl) ?_
    obtain ⟨h3, hf⟩ := ck_e hf
    refine ra_K hC hw 50 (Nat.le_of_ble_eq_true rfl) rfl h3 dX11_keep_15 ?_
    refine lv_aload_n hx hb dX11_keep_16 rfl (lv_at hl 0 rfl) ?_
    refine rg_p hC hw 0 (Nat.le_of_ble_eq_true rfl) rfl fd_X11_4 wf_X11_44 (q := 19) rfl dX11_keep_17 ?_
    refine lv_aload_n hx hb dX11_keep_20 rfl (lv_at hl 0 rfl) ?_
    refine rg_p hC hw 0 (Nat.le_of_ble_eq_true rfl) rfl fd_X11_3 wf_X11_35 (q := 14) rfl dX11_keep_21 ?_
    refine rg_p hC hw 14 (Nat.le_of_ble_eq_true rfl) rfl fd_X3_1 wf_X11_166 (q := 15) rfl dX11_keep_24 ?_
    refine lv_aload_n hx hb dX11_keep_27 rfl (lv_at hl 0 rfl) ?_
    refine rg_p hC hw 0 (Nat.le_of_ble_eq_true rfl) rfl fd_X11_2 wf_X11_26 (q := 5) rfl dX11_keep_28 ?_
    refine rg_p hC hw 5 (Nat.le_of_ble_eq_true rfl) rfl fd_X9_3 wf_X11_106 (q := 7) rfl dX11_keep_31 ?_
    obtain ⟨z4, ez4, hf⟩ := bd_e hf
    refine clc_Vv hC hw (c_X1_take (kp_ix h3) ez4) hd_X1_take cw_X11_441 (kp_lt (kp_ix h3)) (kp_kd (kp_ix h3)) rfl (rest := []) hl.1 rfl (Nat.le_of_ble_eq_true rfl) ⟨Nat.le_of_ble_eq_true rfl, Nat.le_of_ble_eq_true rfl⟩ ⟨Nat.zero_le _, Nat.zero_le _⟩ rfl dX11_keep_34 (fun H locs hw => ?_)
    refine lv_iconst (v := 1) hx hb dX11_keep_37 (by decide) ?_
    have hz := Option.some.inj hf
    subst hz
    exact rtc_z hC hw (Or.inr rfl) dX11_keep_38
  · rw [if_pos c2] at hf
    refine lv_iconst (v := 0) hx hb dX11_keep_8 (by decide) ?_
    have hz := Option.some.inj hf
    subst hz
    exact rtc_z hC hw (Or.inl rfl) dX11_keep_9
set_option maxRecDepth 100000 in
theorem c_X11_keep {l : Launch} {D : va_G} {cy : Nat → ClassId} {z0 : Nat} {ad : Nat → Nat} {u : Nat × Nat} {X : va_W} {z : (Int32 × mm_M)} {x1 : Int32} {M : mm_M} (hf : f_X11_keep x1 M = some z) : ct_i cx_T l yX11_keep (Cond.code yX11_keep cX11_keep 2 (some .boolean)) 2 84 D cy z0 ad u M X [.ref (ad 0), .int x1] z.1 z.2 := by
  refine bgc_i (by decide) (fun p e s m below meth c hC hw => ?_)
  refine en_t (Nat.le_of_ble_eq_true rfl) (fun ls hl => ?_)
  have hl : lv_has ls 2 [(0, .ref (ad 0)), (1, .int x1)] := hl
  exact k_X11_keep hC hf hw hl
set_option maxRecDepth 100000 in
set_option maxHeartbeats 4000000 in
theorem k_X11_again_75 {p : Program} {l : Launch} {e : Env} {s : State} {m : MethodId} {args : Array Value} {below : List Frame} {meth : Method} {c : Code} {D : va_G} {cy : Nat → ClassId} {z0 : Nat} {ad : Nat → Nat} {X : va_W} {u : Nat × Nat} (hC : cx_C p s m args meth c cX11_again "RhymedThen" (Cond.code yX11_again cX11_again 3 (some .boolean)) 3 (some .boolean)) {z : (Int32 × mm_M)} {M : mm_M} (hf : f_X11_again_75 M = some z) {H : Heap} {locs : List Loc} (hw : wd_in cx_T D cy z0 ad u M X s H locs) {ls : Array Slot} (hl : lv_has ls 3 [(0, .ref (ad 0))]) : W p l e { frames := 4, cells := 0, slots := 0, locals := 87 } s m args below meth c H locs 0 0 (MQ below (cq_i cx_T D cy z0 ad u X z.1 z.2) args s 0 0 (fun q => z0 ≤ q)) (F0 m 75 ls []) := by
  have hx := hC.1
  have hb := hC.2.1
  unfold f_X11_again_75 at hf
  refine lv_aload_n hx hb dX11_again_75 rfl (lv_at hl 0 rfl) ?_
  refine rg_p hC hw 0 (Nat.le_of_ble_eq_true rfl) rfl fd_X11_4 wf_X11_44 (q := 19) rfl dX11_again_76 ?_
  obtain ⟨z12, ez12, hf⟩ := sq_e hf
  refine clc_Vv hC hw (c_X6_doubtAll ez12.symm) hd_X6_doubtAll cw_X11_113 (Nat.le_of_ble_eq_true rfl) rfl rfl (rest := []) hl.1 rfl (Nat.le_of_ble_eq_true rfl) ⟨Nat.le_of_ble_eq_true rfl, Nat.le_of_ble_eq_true rfl⟩ ⟨Nat.zero_le _, Nat.zero_le _⟩ rfl dX11_again_79 (fun H locs hw => ?_)
  refine lv_iconst (v := 1) hx hb dX11_again_82 (by decide) ?_
  have hz := Option.some.inj hf
  subst hz
  exact rtc_z hC hw (Or.inr rfl) dX11_again_83
set_option maxRecDepth 100000 in
set_option maxHeartbeats 4000000 in
theorem k_X11_again_44 {p : Program} {l : Launch} {e : Env} {s : State} {m : MethodId} {args : Array Value} {below : List Frame} {meth : Method} {c : Code} {D : va_G} {cy : Nat → ClassId} {z0 : Nat} {ad : Nat → Nat} {X : va_W} {u : Nat × Nat} (hC : cx_C p s m args meth c cX11_again "RhymedThen" (Cond.code yX11_again cX11_again 3 (some .boolean)) 3 (some .boolean)) {z : (Int32 × mm_M)} {x1 : Int32} {x2 : Int32} {M : mm_M} {q44 : Int32 → Int32 → mm_M → Option (Int32 × mm_M)} (hq44 : ∀ (x1 : Int32) (x2 : Int32) (M : mm_M) (H : Heap) (locs : List Loc) (ls : Array Slot), q44 x1 x2 M = some z → wd_in cx_T D cy z0 ad u M X s H locs → lv_has ls 3 [(0, .ref (ad 0)), (1, .int x1), (2, .int x2)] → W p l e { frames := 4, cells := 0, slots := 0, locals := 87 } s m args below meth c H locs 0 0 (MQ below (cq_i cx_T D cy z0 ad u X z.1 z.2) args s 0 0 (fun q => z0 ≤ q)) (F0 m 44 ls [])) (hf : f_X11_again_44 q44 x1 x2 M = some z) {H : Heap} {locs : List Loc} (hw : wd_in cx_T D cy z0 ad u M X s H locs) {ls : Array Slot} (hl : lv_has ls 3 [(0, .ref (ad 0)), (1, .int x1), (2, .int x2)]) : W p l e { frames := 4, cells := 0, slots := 0, locals := 87 } s m args below meth c H locs 0 0 (MQ below (cq_i cx_T D cy z0 ad u X z.1 z.2) args s 0 0 (fun q => z0 ≤ q)) (F0 m 44 ls []) := by
  have hx := hC.1
  have hb := hC.2.1
  unfold f_X11_again_44 at hf
  refine lv_iload_n hx hb dX11_again_44 rfl (lv_at hl 2 rfl) ?_
  refine lv_bipush (v := 6) hx hb dX11_again_45 (by decide) ?_
  refine lv_icmp_ge (tgt := 75) hx hb dX11_again_47 (by decide) (fun c7 => ?_) (fun c7 => ?_)
  · rw [if_pos c7] at hf
    exact k_X11_again_75 hC hf hw (lv_sub hl [0] rfl)
  · rw [if_neg c7] at hf
    refine lv_aload_n hx hb dX11_again_50 rfl (lv_at hl 0 rfl) ?_
    refine rg_p hC hw 0 (Nat.le_of_ble_eq_true rfl) rfl fd_X11_2 wf_X11_26 (q := 5) rfl dX11_again_51 ?_
    refine lv_iload_n hx hb dX11_again_54 rfl (lv_at hl 2 rfl) ?_
    refine lv_aload_n hx hb dX11_again_55 rfl (lv_at hl 0 rfl) ?_
    refine rg_p hC hw 0 (Nat.le_of_ble_eq_true rfl) rfl fd_X11_8 wf_X11_71 (q := 50) rfl dX11_again_56 ?_
    refine lv_iload_n hx hb dX11_again_59 rfl (lv_at hl 1 rfl) ?_
    obtain ⟨h8, hf⟩ := ck_e hf
    refine ra_K hC hw 50 (Nat.le_of_ble_eq_true rfl) rfl h8 dX11_again_60 ?_
    refine rg_p hC hw (51 + 5 * x1.toNatClampNeg) (kp_lt (kp_ix h8)) (kp_kd (kp_ix h8)) fd_X1_6 wf_X11_453 (q := ((51 + 5 * x1.toNatClampNeg) + 4)) (kp_rt4 (kp_ix h8)) dX11_again_61 ?_
    refine lv_iload_n hx hb dX11_again_64 rfl (lv_at hl 2 rfl) ?_
    obtain ⟨h9, hf⟩ := ck_e hf
    refine ra_i hC hw ((51 + 5 * x1.toNatClampNeg) + 4) (kp_lt4 (kp_ix h8)) (kp_kd4 (kp_ix h8)) h9 dX11_again_65 ?_
    obtain ⟨z10, ez10, hf⟩ := bd_e hf
    refine clc_Vv hC hw (c_X9_setClass ez10) hd_X9_setClass cw_X11_109 (Nat.le_of_ble_eq_true rfl) rfl rfl (rest := []) hl.1 rfl (Nat.le_of_ble_eq_true rfl) ⟨Nat.le_of_ble_eq_true rfl, Nat.le_of_ble_eq_true rfl⟩ ⟨Nat.zero_le _, Nat.zero_le _⟩ rfl dX11_again_66 (fun H locs hw => ?_)
    obtain ⟨y11, ey11, hf⟩ := sq_e hf
    refine lv_iinc (v := y11) (lv' := [(2, .int y11), (0, .ref (ad 0)), (1, .int x1)]) hx hb dX11_again_69 hl (k := 2) rfl (by rw [ey11]; rfl) (by decide) rfl (fun ls hl => ?_)
    refine lv_goto (tgt := 44) hx hb dX11_again_72 (by decide) ?_
    exact hq44 _ _ _ _ _ _ hf hw (lv_sub hl [1, 2, 0] rfl)
set_option maxRecDepth 100000 in
set_option maxHeartbeats 4000000 in
theorem k_X11_again_44l {p : Program} {l : Launch} {e : Env} {s : State} {m : MethodId} {args : Array Value} {below : List Frame} {meth : Method} {c : Code} {D : va_G} {cy : Nat → ClassId} {z0 : Nat} {ad : Nat → Nat} {X : va_W} {u : Nat × Nat} (hC : cx_C p s m args meth c cX11_again "RhymedThen" (Cond.code yX11_again cX11_again 3 (some .boolean)) 3 (some .boolean)) {z : (Int32 × mm_M)} : ∀ (n : Nat) (x1 : Int32) (x2 : Int32) (M : mm_M) (H : Heap) (locs : List Loc) (ls : Array Slot), f_X11_again_44l n x1 x2 M = some z → wd_in cx_T D cy z0 ad u M X s H locs → lv_has ls 3 [(0, .ref (ad 0)), (1, .int x1), (2, .int x2)] → W p l e { frames := 4, cells := 0, slots := 0, locals := 87 } s m args below meth c H locs 0 0 (MQ below (cq_i cx_T D cy z0 ad u X z.1 z.2) args s 0 0 (fun q => z0 ≤ q)) (F0 m 44 ls []) := by
  intro n
  induction n with
  | zero => intro x1 x2 M H locs ls hf; exact absurd hf (by simp [f_X11_again_44l])
  | succ n ih => intro x1 x2 M H locs ls hf hw hl; exact k_X11_again_44 hC ih hf hw hl
set_option maxRecDepth 100000 in
set_option maxHeartbeats 4000000 in
theorem k_X11_again {p : Program} {l : Launch} {e : Env} {s : State} {m : MethodId} {args : Array Value} {below : List Frame} {meth : Method} {c : Code} {D : va_G} {cy : Nat → ClassId} {z0 : Nat} {ad : Nat → Nat} {X : va_W} {u : Nat × Nat} (hC : cx_C p s m args meth c cX11_again "RhymedThen" (Cond.code yX11_again cX11_again 3 (some .boolean)) 3 (some .boolean)) {z : (Int32 × mm_M)} {x1 : Int32} {M : mm_M} (hf : f_X11_again x1 M = some z) {H : Heap} {locs : List Loc} (hw : wd_in cx_T D cy z0 ad u M X s H locs) {ls : Array Slot} (hl : lv_has ls 3 [(0, .ref (ad 0)), (1, .int x1)]) : W p l e { frames := 4, cells := 0, slots := 0, locals := 87 } s m args below meth c H locs 0 0 (MQ below (cq_i cx_T D cy z0 ad u X z.1 z.2) args s 0 0 (fun q => z0 ≤ q)) (F0 m 0 ls []) := by
  have hx := hC.1
  have hb := hC.2.1
  unfold f_X11_again at hf
  refine lv_iload_n hx hb dX11_again_0 rfl (lv_at hl 1 rfl) ?_
  refine lv_iconst (v := 3) hx hb dX11_again_1 (by decide) ?_
  obtain ⟨z1, ez1, hf⟩ := sq_e hf
  refine clc_Si hC hw (c_X11_isBelow ez1.symm) hd_X11_isBelow cw_X11_101 (rest := []) hl.1 rfl (Nat.le_of_ble_eq_true rfl) ⟨Nat.le_of_ble_eq_true rfl, Nat.le_of_ble_eq_true rfl⟩ ⟨Nat.zero_le _, Nat.zero_le _⟩ rfl dX11_again_2 (fun H locs hw => ?_)
  refine lv_if_eq (tgt := 20) hx hb dX11_again_5 (by decide) (fun c2 => ?_) (fun c2 => ?_)
  · rw [if_pos c2] at hf
    refine lv_iconst (v := 0) hx hb dX11_again_20 (by decide) ?_
    have hz := Option.some.inj hf
    subst hz
    exact rtc_z hC hw (Or.inl rfl) dX11_again_21
  · rw [if_neg c2] at hf
    refine lv_aload_n hx hb dX11_again_8 rfl (lv_at hl 0 rfl) ?_
    refine rg_p hC hw 0 (Nat.le_of_ble_eq_true rfl) rfl fd_X11_8 wf_X11_71 (q := 50) rfl dX11_again_9 ?_
    refine lv_iload_n hx hb dX11_again_12 rfl (lv_at hl 1 rfl) ?_
    obtain ⟨h3, hf⟩ := ck_e hf
    refine ra_K hC hw 50 (Nat.le_of_ble_eq_true rfl) rfl h3 dX11_again_13 ?_
    refine rg_i hC hw (51 + 5 * x1.toNatClampNeg) (kp_lt (kp_ix h3)) (kp_kd (kp_ix h3)) fd_X1_0 wf_X11_445 dX11_again_14 ?_
    refine lv_if_ne (tgt := 22) hx hb dX11_again_17 (by decide) (fun c4 => ?_) (fun c4 => ?_)
    · rw [if_neg c4] at hf
      refine lv_aload_n hx hb dX11_again_22 rfl (lv_at hl 0 rfl) ?_
      refine rg_p hC hw 0 (Nat.le_of_ble_eq_true rfl) rfl fd_X11_8 wf_X11_71 (q := 50) rfl dX11_again_23 ?_
      refine lv_iload_n hx hb dX11_again_26 rfl (lv_at hl 1 rfl) ?_
      obtain ⟨h5, hf⟩ := ck_e hf
      refine ra_K hC hw 50 (Nat.le_of_ble_eq_true rfl) rfl h5 dX11_again_27 ?_
      refine lv_aload_n hx hb dX11_again_28 rfl (lv_at hl 0 rfl) ?_
      refine rg_p hC hw 0 (Nat.le_of_ble_eq_true rfl) rfl fd_X11_4 wf_X11_44 (q := 19) rfl dX11_again_29 ?_
      refine lv_aload_n hx hb dX11_again_32 rfl (lv_at hl 0 rfl) ?_
      refine rg_p hC hw 0 (Nat.le_of_ble_eq_true rfl) rfl fd_X11_3 wf_X11_35 (q := 14) rfl dX11_again_33 ?_
      refine rg_p hC hw 14 (Nat.le_of_ble_eq_true rfl) rfl fd_X3_1 wf_X11_166 (q := 15) rfl dX11_again_36 ?_
      obtain ⟨z6, ez6, hf⟩ := bd_e hf
      refine clc_Vv hC hw (c_X1_giveBack (kp_ix h5) ez6) hd_X1_giveBack cw_X11_449 (kp_lt (kp_ix h5)) (kp_kd (kp_ix h5)) rfl (rest := []) hl.1 rfl (Nat.le_of_ble_eq_true rfl) ⟨Nat.le_of_ble_eq_true rfl, Nat.le_of_ble_eq_true rfl⟩ ⟨Nat.zero_le _, Nat.zero_le _⟩ rfl dX11_again_39 (fun H locs hw => ?_)
      refine lv_iconst (v := 0) hx hb dX11_again_42 (by decide) ?_
      refine lv_istore_n (lv' := [(2, .int 0), (0, .ref (ad 0)), (1, .int x1)]) hx hb dX11_again_43 rfl hl (by decide) rfl (fun ls hl => ?_)
      exact k_X11_again_44l hC fu_ _ _ _ _ _ _ hf hw (lv_sub hl [1, 2, 0] rfl)
    · rw [if_pos c4] at hf
      refine lv_iconst (v := 0) hx hb dX11_again_20 (by decide) ?_
      have hz := Option.some.inj hf
      subst hz
      exact rtc_z hC hw (Or.inl rfl) dX11_again_21
set_option maxRecDepth 100000 in
theorem c_X11_again {l : Launch} {D : va_G} {cy : Nat → ClassId} {z0 : Nat} {ad : Nat → Nat} {u : Nat × Nat} {X : va_W} {z : (Int32 × mm_M)} {x1 : Int32} {M : mm_M} (hf : f_X11_again x1 M = some z) : ct_i cx_T l yX11_again (Cond.code yX11_again cX11_again 3 (some .boolean)) 4 87 D cy z0 ad u M X [.ref (ad 0), .int x1] z.1 z.2 := by
  refine bgc_i (by decide) (fun p e s m below meth c hC hw => ?_)
  refine en_t (Nat.le_of_ble_eq_true rfl) (fun ls hl => ?_)
  have hl : lv_has ls 3 [(0, .ref (ad 0)), (1, .int x1)] := hl
  exact k_X11_again hC hf hw hl
set_option maxRecDepth 100000 in
set_option maxHeartbeats 4000000 in
theorem k_X11_count {p : Program} {l : Launch} {e : Env} {s : State} {m : MethodId} {args : Array Value} {below : List Frame} {meth : Method} {c : Code} {D : va_G} {cy : Nat → ClassId} {z0 : Nat} {ad : Nat → Nat} {X : va_W} {u : Nat × Nat} (hC : cx_C p s m args meth c cX11_count "RhymedThen" (Cond.code yX11_count cX11_count 2 (some .int)) 2 (some .int)) {z : Int32} {x1 : Int32} {M : mm_M} (hf : f_X11_count x1 M = z) {H : Heap} {locs : List Loc} (hw : wd_in cx_T D cy z0 ad u M X s H locs) {ls : Array Slot} (hl : lv_has ls 2 [(0, .ref (ad 0)), (1, .int x1)]) : W p l e { frames := 0, cells := 0, slots := 0, locals := 0 } s m args below meth c H locs 0 0 (MQ below (cq_i cx_T D cy z0 ad u X z M) args s 0 0 (fun q => z0 ≤ q)) (F0 m 0 ls []) := by
  have hx := hC.1
  have hb := hC.2.1
  unfold f_X11_count at hf
  refine lv_iload_n hx hb dX11_count_0 rfl (lv_at hl 1 rfl) ?_
  by_cases s1 : x1 = 0
  · rw [if_pos s1] at hf
    refine lt_i s1.symm ?_
    refine lv_tableIn (tgt := 44) hx hb dX11_count_1 (by decide) (by decide) rfl (by decide) ?_
    refine lv_aload_n hx hb dX11_count_44 rfl (lv_at hl 0 rfl) ?_
    refine rg_p hC hw 0 (Nat.le_of_ble_eq_true rfl) rfl fd_X11_2 wf_X11_26 (q := 5) rfl dX11_count_45 ?_
    refine rg_i hC hw 5 (Nat.le_of_ble_eq_true rfl) rfl fd_X9_2 wf_X11_116 dX11_count_48 ?_
    subst hf
    exact rtc_i hC hw dX11_count_51
  rw [if_neg s1] at hf
  by_cases s2 : x1 = 1
  · rw [if_pos s2] at hf
    refine lt_i s2.symm ?_
    refine lv_tableIn (tgt := 52) hx hb dX11_count_1 (by decide) (by decide) rfl (by decide) ?_
    refine lv_aload_n hx hb dX11_count_52 rfl (lv_at hl 0 rfl) ?_
    refine rg_p hC hw 0 (Nat.le_of_ble_eq_true rfl) rfl fd_X11_2 wf_X11_26 (q := 5) rfl dX11_count_53 ?_
    refine rg_i hC hw 5 (Nat.le_of_ble_eq_true rfl) rfl fd_X9_1 wf_X11_138 dX11_count_56 ?_
    subst hf
    exact rtc_i hC hw dX11_count_59
  rw [if_neg s2] at hf
  by_cases s3 : x1 = 2
  · rw [if_pos s3] at hf
    refine lt_i s3.symm ?_
    refine lv_tableIn (tgt := 60) hx hb dX11_count_1 (by decide) (by decide) rfl (by decide) ?_
    refine lv_aload_n hx hb dX11_count_60 rfl (lv_at hl 0 rfl) ?_
    refine rg_p hC hw 0 (Nat.le_of_ble_eq_true rfl) rfl fd_X11_3 wf_X11_35 (q := 14) rfl dX11_count_61 ?_
    refine rg_i hC hw 14 (Nat.le_of_ble_eq_true rfl) rfl fd_X3_2 wf_X11_144 dX11_count_64 ?_
    subst hf
    exact rtc_i hC hw dX11_count_67
  rw [if_neg s3] at hf
  by_cases s4 : x1 = 3
  · rw [if_pos s4] at hf
    refine lt_i s4.symm ?_
    refine lv_tableIn (tgt := 68) hx hb dX11_count_1 (by decide) (by decide) rfl (by decide) ?_
    refine lv_aload_n hx hb dX11_count_68 rfl (lv_at hl 0 rfl) ?_
    refine rg_p hC hw 0 (Nat.le_of_ble_eq_true rfl) rfl fd_X11_4 wf_X11_44 (q := 19) rfl dX11_count_69 ?_
    refine rg_i hC hw 19 (Nat.le_of_ble_eq_true rfl) rfl fd_X6_3 wf_X11_251 dX11_count_72 ?_
    subst hf
    exact rtc_i hC hw dX11_count_75
  rw [if_neg s4] at hf
  by_cases s5 : x1 = 4
  · rw [if_pos s5] at hf
    refine lt_i s5.symm ?_
    refine lv_tableIn (tgt := 76) hx hb dX11_count_1 (by decide) (by decide) rfl (by decide) ?_
    refine lv_aload_n hx hb dX11_count_76 rfl (lv_at hl 0 rfl) ?_
    refine rg_p hC hw 0 (Nat.le_of_ble_eq_true rfl) rfl fd_X11_4 wf_X11_44 (q := 19) rfl dX11_count_77 ?_
    refine rg_i hC hw 19 (Nat.le_of_ble_eq_true rfl) rfl fd_X6_4 wf_X11_283 dX11_count_80 ?_
    subst hf
    exact rtc_i hC hw dX11_count_83
  rw [if_neg s5] at hf
  by_cases s6 : x1 = 5
  · rw [if_pos s6] at hf
    refine lt_i s6.symm ?_
    refine lv_tableIn (tgt := 84) hx hb dX11_count_1 (by decide) (by decide) rfl (by decide) ?_
    refine lv_aload_n hx hb dX11_count_84 rfl (lv_at hl 0 rfl) ?_
    refine rg_p hC hw 0 (Nat.le_of_ble_eq_true rfl) rfl fd_X11_1 wf_X11_19 (q := 3) rfl dX11_count_85 ?_
    refine rg_i hC hw 3 (Nat.le_of_ble_eq_true rfl) rfl fd_X4_1 wf_X11_224 dX11_count_88 ?_
    subst hf
    exact rtc_i hC hw dX11_count_91
  rw [if_neg s6] at hf
  by_cases s7 : x1 = 6
  · rw [if_pos s7] at hf
    refine lt_i s7.symm ?_
    refine lv_tableIn (tgt := 92) hx hb dX11_count_1 (by decide) (by decide) rfl (by decide) ?_
    refine lv_aload_n hx hb dX11_count_92 rfl (lv_at hl 0 rfl) ?_
    refine rg_p hC hw 0 (Nat.le_of_ble_eq_true rfl) rfl fd_X11_0 wf_X11_10 (q := 1) rfl dX11_count_93 ?_
    refine rg_i hC hw 1 (Nat.le_of_ble_eq_true rfl) rfl fd_X8_1 wf_X11_94 dX11_count_96 ?_
    subst hf
    exact rtc_i hC hw dX11_count_99
  rw [if_neg s7] at hf
  refine lv_tableOut (tgt := 100) hx hb dX11_count_1 (sw_out x1 0 6 (fun v h1 h2 => by rcases (show v = 0 ∨ v = 1 ∨ v = 2 ∨ v = 3 ∨ v = 4 ∨ v = 5 ∨ v = 6 by omega) with rfl | rfl | rfl | rfl | rfl | rfl | rfl <;> first | exact sw_ne s1 (by decide) | exact sw_ne s2 (by decide) | exact sw_ne s3 (by decide) | exact sw_ne s4 (by decide) | exact sw_ne s5 (by decide) | exact sw_ne s6 (by decide) | exact sw_ne s7 (by decide))) (by decide) ?_
  refine lv_iconst (v := (-1)) hx hb dX11_count_100 (by decide) ?_
  subst hf
  exact rtc_i hC hw dX11_count_101
set_option maxRecDepth 100000 in
theorem c_X11_count {l : Launch} {D : va_G} {cy : Nat → ClassId} {z0 : Nat} {ad : Nat → Nat} {u : Nat × Nat} {X : va_W} {z : Int32} {x1 : Int32} {M : mm_M} (hf : f_X11_count x1 M = z) : ct_i cx_T l yX11_count (Cond.code yX11_count cX11_count 2 (some .int)) 0 0 D cy z0 ad u M X [.ref (ad 0), .int x1] z M := by
  refine bgc_i (by decide) (fun p e s m below meth c hC hw => ?_)
  refine en_t (Nat.le_of_ble_eq_true rfl) (fun ls hl => ?_)
  have hl : lv_has ls 2 [(0, .ref (ad 0)), (1, .int x1)] := hl
  exact k_X11_count hC hf hw hl
set_option maxRecDepth 100000 in
set_option maxHeartbeats 4000000 in
theorem k_X11_year {p : Program} {l : Launch} {e : Env} {s : State} {m : MethodId} {args : Array Value} {below : List Frame} {meth : Method} {c : Code} {D : va_G} {cy : Nat → ClassId} {z0 : Nat} {ad : Nat → Nat} {X : va_W} {u : Nat × Nat} (hC : cx_C p s m args meth c cX11_year "RhymedThen" (Cond.code yX11_year cX11_year 3 (some .int)) 3 (some .int)) {z : Int32} {x1 : Int32} {x2 : Int32} {M : mm_M} (hf : f_X11_year x1 x2 M = some z) {H : Heap} {locs : List Loc} (hw : wd_in cx_T D cy z0 ad u M X s H locs) {ls : Array Slot} (hl : lv_has ls 3 [(0, .ref (ad 0)), (1, .int x1), (2, .int x2)]) : W p l e { frames := 3, cells := 0, slots := 0, locals := 67 } s m args below meth c H locs 0 0 (MQ below (cq_i cx_T D cy z0 ad u X z M) args s 0 0 (fun q => z0 ≤ q)) (F0 m 0 ls []) := by
  have hx := hC.1
  have hb := hC.2.1
  unfold f_X11_year at hf
  refine lv_aload_n hx hb dX11_year_0 rfl (lv_at hl 0 rfl) ?_
  refine lv_iload_n hx hb dX11_year_1 rfl (lv_at hl 1 rfl) ?_
  obtain ⟨z1, ez1, hf⟩ := sq_e hf
  refine clc_Vi hC hw (c_X11_isLaw ez1.symm) hd_X11_isLaw cw_X11_235 (Nat.le_of_ble_eq_true rfl) rfl rfl (rest := []) hl.1 rfl (Nat.le_of_ble_eq_true rfl) ⟨Nat.le_of_ble_eq_true rfl, Nat.le_of_ble_eq_true rfl⟩ ⟨Nat.zero_le _, Nat.zero_le _⟩ rfl dX11_year_2 (fun H locs hw => ?_)
  refine lv_if_eq (tgt := 16) hx hb dX11_year_5 (by decide) (fun c2 => ?_) (fun c2 => ?_)
  · rw [if_pos c2] at hf
    refine lv_iconst (v := (-1)) hx hb dX11_year_16 (by decide) ?_
    have hz := Option.some.inj hf
    subst hz
    exact rtc_i hC hw dX11_year_17
  · rw [if_neg c2] at hf
    refine lv_aload_n hx hb dX11_year_8 rfl (lv_at hl 0 rfl) ?_
    refine lv_iload_n hx hb dX11_year_9 rfl (lv_at hl 2 rfl) ?_
    obtain ⟨z3, ez3, hf⟩ := sq_e hf
    refine clc_Vi hC hw (c_X11_isHistory ez3.symm) hd_X11_isHistory cw_X11_218 (Nat.le_of_ble_eq_true rfl) rfl rfl (rest := []) hl.1 rfl (Nat.le_of_ble_eq_true rfl) ⟨Nat.le_of_ble_eq_true rfl, Nat.le_of_ble_eq_true rfl⟩ ⟨Nat.zero_le _, Nat.zero_le _⟩ rfl dX11_year_10 (fun H locs hw => ?_)
    refine lv_if_ne (tgt := 18) hx hb dX11_year_13 (by decide) (fun c4 => ?_) (fun c4 => ?_)
    · rw [if_neg c4] at hf
      refine lv_aload_n hx hb dX11_year_18 rfl (lv_at hl 0 rfl) ?_
      refine rg_p hC hw 0 (Nat.le_of_ble_eq_true rfl) rfl fd_X11_3 wf_X11_35 (q := 14) rfl dX11_year_19 ?_
      refine lv_iload_n hx hb dX11_year_22 rfl (lv_at hl 2 rfl) ?_
      refine lv_iload_n hx hb dX11_year_23 rfl (lv_at hl 1 rfl) ?_
      obtain ⟨z5, ez5, hf⟩ := bd_e hf
      refine clc_Vi hC hw (c_X3_yearOf ez5) hd_X3_yearOf cw_X11_296 (Nat.le_of_ble_eq_true rfl) rfl rfl (rest := []) hl.1 rfl (Nat.le_of_ble_eq_true rfl) ⟨Nat.le_of_ble_eq_true rfl, Nat.le_of_ble_eq_true rfl⟩ ⟨Nat.zero_le _, Nat.zero_le _⟩ rfl dX11_year_24 (fun H locs hw => ?_)
      have hz := Option.some.inj hf
      subst hz
      exact rtc_i hC hw dX11_year_27
    · rw [if_pos c4] at hf
      refine lv_iconst (v := (-1)) hx hb dX11_year_16 (by decide) ?_
      have hz := Option.some.inj hf
      subst hz
      exact rtc_i hC hw dX11_year_17
set_option maxRecDepth 100000 in
theorem c_X11_year {l : Launch} {D : va_G} {cy : Nat → ClassId} {z0 : Nat} {ad : Nat → Nat} {u : Nat × Nat} {X : va_W} {z : Int32} {x1 : Int32} {x2 : Int32} {M : mm_M} (hf : f_X11_year x1 x2 M = some z) : ct_i cx_T l yX11_year (Cond.code yX11_year cX11_year 3 (some .int)) 3 67 D cy z0 ad u M X [.ref (ad 0), .int x1, .int x2] z M := by
  refine bgc_i (by decide) (fun p e s m below meth c hC hw => ?_)
  refine en_t (Nat.le_of_ble_eq_true rfl) (fun ls hl => ?_)
  have hl : lv_has ls 3 [(0, .ref (ad 0)), (1, .int x1), (2, .int x2)] := hl
  exact k_X11_year hC hf hw hl
set_option maxRecDepth 100000 in
set_option maxHeartbeats 4000000 in
theorem k_X12_thrown {p : Program} {l : Launch} {e : Env} {s : State} {m : MethodId} {args : Array Value} {below : List Frame} {meth : Method} {c : Code} {D : va_G} {cy : Nat → ClassId} {z0 : Nat} {ad : Nat → Nat} {X : va_W} {u : Nat × Nat} (hC : cx_C p s m args meth c cX12_thrown "RhymedThenModel" (Cond.code yX12_thrown cX12_thrown 1 (some .int)) 1 (some .int)) {z : Int32} {M : mm_M} (hf : f_X12_thrown M = z) {H : Heap} {locs : List Loc} (hw : wd_in rf_T D cy z0 ad u M X s H locs) {ls : Array Slot} (hl : lv_has ls 1 [(0, .ref (ad 0))]) : W p l e { frames := 0, cells := 0, slots := 0, locals := 0 } s m args below meth c H locs 0 0 (MQ below (cq_i rf_T D cy z0 ad u X z M) args s 0 0 (fun q => z0 ≤ q)) (F0 m 0 ls []) := by
  have hx := hC.1
  have hb := hC.2.1
  unfold f_X12_thrown at hf
  refine lv_aload_n hx hb dX12_thrown_0 rfl (lv_at hl 0 rfl) ?_
  refine rg_i hC hw 0 (Nat.le_of_ble_eq_true rfl) rfl fd_X12_0 wf_X12_1 dX12_thrown_1 ?_
  subst hf
  exact rtc_i hC hw dX12_thrown_4
set_option maxRecDepth 100000 in
theorem c_X12_thrown {l : Launch} {D : va_G} {cy : Nat → ClassId} {z0 : Nat} {ad : Nat → Nat} {u : Nat × Nat} {X : va_W} {z : Int32} {M : mm_M} (hf : f_X12_thrown M = z) : ct_i rf_T l yX12_thrown (Cond.code yX12_thrown cX12_thrown 1 (some .int)) 0 0 D cy z0 ad u M X [.ref (ad 0)] z M := by
  refine bgc_i (by decide) (fun p e s m below meth c hC hw => ?_)
  refine en_t (Nat.le_of_ble_eq_true rfl) (fun ls hl => ?_)
  have hl : lv_has ls 1 [(0, .ref (ad 0))] := hl
  exact k_X12_thrown hC hf hw hl
set_option maxRecDepth 100000 in
set_option maxHeartbeats 4000000 in
theorem k_X12_in {p : Program} {l : Launch} {e : Env} {s : State} {m : MethodId} {args : Array Value} {below : List Frame} {meth : Method} {c : Code} {T : wd_T} {D : va_G} {cy : Nat → ClassId} {z0 : Nat} {ad : Nat → Nat} {X : va_W} {M : mm_M} {u : Nat × Nat} (hC : cx_C p s m args meth c cX12_in "RhymedThenModel" (Cond.code yX12_in cX12_in 6 (some .boolean)) 6 (some .boolean)) {z : Int32} {x0 : Int64} {x2 : Int64} {x4 : Int64} (hf : f_X12_in x0 x2 x4 = z) {H : Heap} {locs : List Loc} (hw : wd_in T D cy z0 ad u M X s H locs) {ls : Array Slot} (hl : lv_has ls 6 [(0, .long x0), (2, .long x2), (4, .long x4)]) : W p l e { frames := 0, cells := 0, slots := 0, locals := 0 } s m args below meth c H locs 0 0 (MQ below (cq_i T D cy z0 ad u X z M) args s 0 0 (fun q => z0 ≤ q)) (F0 m 0 ls []) := by
  have hx := hC.1
  have hb := hC.2.1
  unfold f_X12_in at hf
  refine lv_lload_n hx hb dX12_in_0 rfl (lv_at hl 0 rfl) ?_
  refine lv_lload_n hx hb dX12_in_1 rfl (lv_at hl 1 rfl) ?_
  refine lc_lt (tgt := 17) hx hb dX12_in_2 dX12_in_3 (by decide) (fun c1 => ?_) (fun c1 => ?_)
  · rw [if_pos c1] at hf
    refine lv_iconst (v := 0) hx hb dX12_in_17 (by decide) ?_
    subst hf
    exact rtc_z hC hw (Or.inl rfl) dX12_in_18
  · rw [if_neg c1] at hf
    refine lv_lload_n hx hb dX12_in_6 rfl (lv_at hl 0 rfl) ?_
    refine lv_lload hx hb dX12_in_7 (lv_at hl 2 rfl) ?_
    refine lc_gt (tgt := 17) hx hb dX12_in_9 dX12_in_10 (by decide) (fun c2 => ?_) (fun c2 => ?_)
    · rw [if_pos c2] at hf
      refine lv_iconst (v := 0) hx hb dX12_in_17 (by decide) ?_
      subst hf
      exact rtc_z hC hw (Or.inl rfl) dX12_in_18
    · rw [if_neg c2] at hf
      refine lv_iconst (v := 1) hx hb dX12_in_13 (by decide) ?_
      refine lv_goto (tgt := 18) hx hb dX12_in_14 (by decide) ?_
      subst hf
      exact rtc_z hC hw (Or.inr rfl) dX12_in_18
set_option maxRecDepth 100000 in
theorem c_X12_in {l : Launch} {T : wd_T} {D : va_G} {cy : Nat → ClassId} {z0 : Nat} {ad : Nat → Nat} {u : Nat × Nat} {X : va_W} {z : Int32} {x0 : Int64} {x2 : Int64} {x4 : Int64} {M : mm_M} (hf : f_X12_in x0 x2 x4 = z) : ct_i T l yX12_in (Cond.code yX12_in cX12_in 6 (some .boolean)) 0 0 D cy z0 ad u M X [.long x0, .long x2, .long x4] z M := by
  refine bgc_i (by decide) (fun p e s m below meth c hC hw => ?_)
  refine en_t (Nat.le_of_ble_eq_true rfl) (fun ls hl => ?_)
  have hl : lv_has ls 6 [(0, .long x0), (2, .long x2), (4, .long x4)] := hl
  exact k_X12_in hC hf hw hl
set_option maxRecDepth 100000 in
set_option maxHeartbeats 4000000 in
theorem k_X12_has {p : Program} {l : Launch} {e : Env} {s : State} {m : MethodId} {args : Array Value} {below : List Frame} {meth : Method} {c : Code} {T : wd_T} {D : va_G} {cy : Nat → ClassId} {z0 : Nat} {ad : Nat → Nat} {X : va_W} {M : mm_M} {u : Nat × Nat} (hC : cx_C p s m args meth c cX12_has "RhymedThenModel" (Cond.code yX12_has cX12_has 2 (some .boolean)) 2 (some .boolean)) {z : Int32} {x0 : Int32} {x1 : Int32} (hf : f_X12_has x0 x1 = z) {H : Heap} {locs : List Loc} (hw : wd_in T D cy z0 ad u M X s H locs) {ls : Array Slot} (hl : lv_has ls 2 [(0, .int x0), (1, .int x1)]) : W p l e { frames := 0, cells := 0, slots := 0, locals := 0 } s m args below meth c H locs 0 0 (MQ below (cq_i T D cy z0 ad u X z M) args s 0 0 (fun q => z0 ≤ q)) (F0 m 0 ls []) := by
  have hx := hC.1
  have hb := hC.2.1
  unfold f_X12_has at hf
  refine lv_iload_n hx hb dX12_has_0 rfl (lv_at hl 0 rfl) ?_
  refine lv_iload_n hx hb dX12_has_1 rfl (lv_at hl 1 rfl) ?_
  refine lv_ishr hx hb dX12_has_2 ?_
  refine lv_iconst (v := 1) hx hb dX12_has_3 (by decide) ?_
  refine lv_iand hx hb dX12_has_4 ?_
  refine lv_iconst (v := 1) hx hb dX12_has_5 (by decide) ?_
  refine lv_icmp_ne (tgt := 13) hx hb dX12_has_6 (by decide) (fun c1 => ?_) (fun c1 => ?_)
  · rw [if_neg c1] at hf
    refine lv_iconst (v := 0) hx hb dX12_has_13 (by decide) ?_
    subst hf
    exact rtc_z hC hw (Or.inl rfl) dX12_has_14
  · rw [if_pos c1] at hf
    refine lv_iconst (v := 1) hx hb dX12_has_9 (by decide) ?_
    refine lv_goto (tgt := 14) hx hb dX12_has_10 (by decide) ?_
    subst hf
    exact rtc_z hC hw (Or.inr rfl) dX12_has_14
set_option maxRecDepth 100000 in
theorem c_X12_has {l : Launch} {T : wd_T} {D : va_G} {cy : Nat → ClassId} {z0 : Nat} {ad : Nat → Nat} {u : Nat × Nat} {X : va_W} {z : Int32} {x0 : Int32} {x1 : Int32} {M : mm_M} (hf : f_X12_has x0 x1 = z) : ct_i T l yX12_has (Cond.code yX12_has cX12_has 2 (some .boolean)) 0 0 D cy z0 ad u M X [.int x0, .int x1] z M := by
  refine bgc_i (by decide) (fun p e s m below meth c hC hw => ?_)
  refine en_t (Nat.le_of_ble_eq_true rfl) (fun ls hl => ?_)
  have hl : lv_has ls 2 [(0, .int x0), (1, .int x1)] := hl
  exact k_X12_has hC hf hw hl
set_option maxRecDepth 100000 in
set_option maxHeartbeats 4000000 in
theorem k_X12_truth {p : Program} {l : Launch} {e : Env} {s : State} {m : MethodId} {args : Array Value} {below : List Frame} {meth : Method} {c : Code} {T : wd_T} {D : va_G} {cy : Nat → ClassId} {z0 : Nat} {ad : Nat → Nat} {X : va_W} {M : mm_M} {u : Nat × Nat} (hC : cx_C p s m args meth c cX12_truth "RhymedThenModel" (Cond.code yX12_truth cX12_truth 1 (some .int)) 1 (some .int)) {z : Int32} {x0 : Int32} (hf : f_X12_truth x0 = z) {H : Heap} {locs : List Loc} (hw : wd_in T D cy z0 ad u M X s H locs) {ls : Array Slot} (hl : lv_has ls 1 [(0, .int x0)]) : W p l e { frames := 0, cells := 0, slots := 0, locals := 0 } s m args below meth c H locs 0 0 (MQ below (cq_i T D cy z0 ad u X z M) args s 0 0 (fun q => z0 ≤ q)) (F0 m 0 ls []) := by
  have hx := hC.1
  have hb := hC.2.1
  unfold f_X12_truth at hf
  refine lv_iload_n hx hb dX12_truth_0 rfl (lv_at hl 0 rfl) ?_
  refine lv_if_eq (tgt := 8) hx hb dX12_truth_1 (by decide) (fun c1 => ?_) (fun c1 => ?_)
  · rw [if_pos c1] at hf
    refine lv_iconst (v := 0) hx hb dX12_truth_8 (by decide) ?_
    subst hf
    exact rtc_i hC hw dX12_truth_9
  · rw [if_neg c1] at hf
    refine lv_iconst (v := 1) hx hb dX12_truth_4 (by decide) ?_
    refine lv_goto (tgt := 9) hx hb dX12_truth_5 (by decide) ?_
    subst hf
    exact rtc_i hC hw dX12_truth_9
set_option maxRecDepth 100000 in
theorem c_X12_truth {l : Launch} {T : wd_T} {D : va_G} {cy : Nat → ClassId} {z0 : Nat} {ad : Nat → Nat} {u : Nat × Nat} {X : va_W} {z : Int32} {x0 : Int32} {M : mm_M} (hf : f_X12_truth x0 = z) : ct_i T l yX12_truth (Cond.code yX12_truth cX12_truth 1 (some .int)) 0 0 D cy z0 ad u M X [.int x0] z M := by
  refine bgc_i (by decide) (fun p e s m below meth c hC hw => ?_)
  refine en_t (Nat.le_of_ble_eq_true rfl) (fun ls hl => ?_)
  have hl : lv_has ls 1 [(0, .int x0)] := hl
  exact k_X12_truth hC hf hw hl
set_option maxRecDepth 100000 in
set_option maxHeartbeats 4000000 in
theorem k_X12_enters {p : Program} {l : Launch} {e : Env} {s : State} {m : MethodId} {args : Array Value} {below : List Frame} {meth : Method} {c : Code} {D : va_G} {cy : Nat → ClassId} {z0 : Nat} {ad : Nat → Nat} {X : va_W} {u : Nat × Nat} (hC : cx_C p s m args meth c cX12_enters "RhymedThenModel" (Cond.code yX12_enters cX12_enters 3 none) 3 none) {z : mm_M} {x1 : Int64} {M : mm_M} (hf : f_X12_enters x1 M = some z) {H : Heap} {locs : List Loc} (hw : wd_in rf_T D cy z0 ad u M X s H locs) {ls : Array Slot} (hl : lv_has ls 3 [(0, .ref (ad 0)), (1, .long x1)]) : W p l e { frames := 0, cells := 0, slots := 0, locals := 0 } s m args below meth c H locs 0 0 (MQ below (cq_v rf_T D cy z0 ad u X z) args s 0 0 (fun q => z0 ≤ q)) (F0 m 0 ls []) := by
  have hx := hC.1
  have hb := hC.2.1
  unfold f_X12_enters at hf
  refine lv_aload_n hx hb dX12_enters_0 rfl (lv_at hl 0 rfl) ?_
  refine rg_p hC hw 0 (Nat.le_of_ble_eq_true rfl) rfl fd_X12_2 wf_X12_7 (q := 1) rfl dX12_enters_1 ?_
  refine lv_aload_n hx hb dX12_enters_4 rfl (lv_at hl 0 rfl) ?_
  refine rg_i hC hw 0 (Nat.le_of_ble_eq_true rfl) rfl fd_X12_1 wf_X12_11 dX12_enters_5 ?_
  refine lv_lload_n hx hb dX12_enters_8 rfl (lv_at hl 1 rfl) ?_
  obtain ⟨h1, hf⟩ := ck_e hf
  obtain ⟨M2, eM2, hf⟩ := sq_e hf
  refine rs_l hC hw 1 (Nat.le_of_ble_eq_true rfl) rfl h1 dX12_enters_9 eM2 (fun H locs hw => ?_)
  refine lv_aload_n hx hb dX12_enters_10 rfl (lv_at hl 0 rfl) ?_
  refine lv_dup hx hb dX12_enters_11 rfl ?_
  refine rg_i hC hw 0 (Nat.le_of_ble_eq_true rfl) rfl fd_X12_1 wf_X12_11 dX12_enters_12 ?_
  refine lv_iconst (v := 1) hx hb dX12_enters_15 (by decide) ?_
  refine lv_iadd hx hb dX12_enters_16 ?_
  obtain ⟨M3, eM3, hf⟩ := sq_e hf
  refine rp_i hC hw 0 (Nat.le_of_ble_eq_true rfl) rfl fd_X12_1 wf_X12_11 fp_X12_1 rfl rfl dX12_enters_17 eM3 (fun H locs hw => ?_)
  have hz := Option.some.inj hf
  subst hz
  exact rtc_v hC hw dX12_enters_20
set_option maxRecDepth 100000 in
theorem c_X12_enters {l : Launch} {D : va_G} {cy : Nat → ClassId} {z0 : Nat} {ad : Nat → Nat} {u : Nat × Nat} {X : va_W} {z : mm_M} {x1 : Int64} {M : mm_M} (hf : f_X12_enters x1 M = some z) : ct_v rf_T l yX12_enters (Cond.code yX12_enters cX12_enters 3 none) 0 0 D cy z0 ad u M X [.ref (ad 0), .long x1] z := by
  refine bgc_v (by decide) (fun p e s m below meth c hC hw => ?_)
  refine en_t (Nat.le_of_ble_eq_true rfl) (fun ls hl => ?_)
  have hl : lv_has ls 3 [(0, .ref (ad 0)), (1, .long x1)] := hl
  exact k_X12_enters hC hf hw hl
set_option maxRecDepth 100000 in
set_option maxHeartbeats 4000000 in
theorem k_X12_common_6 {p : Program} {l : Launch} {e : Env} {s : State} {m : MethodId} {args : Array Value} {below : List Frame} {meth : Method} {c : Code} {T : wd_T} {D : va_G} {cy : Nat → ClassId} {z0 : Nat} {ad : Nat → Nat} {X : va_W} {M : mm_M} {u : Nat × Nat} (hC : cx_C p s m args meth c cX12_common "RhymedThenModel" (Cond.code yX12_common cX12_common 10 (some .long)) 10 (some .long)) {z : Int64} {x4 : Int64} {x6 : Int64} {q6 : Int64 → Int64 → Option Int64} (hq6 : ∀ (x4 : Int64) (x6 : Int64) (H : Heap) (locs : List Loc) (ls : Array Slot), q6 x4 x6 = some z → wd_in T D cy z0 ad u M X s H locs → lv_has ls 10 [(4, .long x4), (6, .long x6)] → W p l e { frames := 0, cells := 0, slots := 0, locals := 0 } s m args below meth c H locs 0 0 (MQ below (cq_l T D cy z0 ad u X z M) args s 0 0 (fun q => z0 ≤ q)) (F0 m 6 ls [])) (hf : f_X12_common_6 q6 x4 x6 = some z) {H : Heap} {locs : List Loc} (hw : wd_in T D cy z0 ad u M X s H locs) {ls : Array Slot} (hl : lv_has ls 10 [(4, .long x4), (6, .long x6)]) : W p l e { frames := 0, cells := 0, slots := 0, locals := 0 } s m args below meth c H locs 0 0 (MQ below (cq_l T D cy z0 ad u X z M) args s 0 0 (fun q => z0 ≤ q)) (F0 m 6 ls []) := by
  have hx := hC.1
  have hb := hC.2.1
  unfold f_X12_common_6 at hf
  refine lv_lload hx hb dX12_common_6 (lv_at hl 1 rfl) ?_
  refine lv_lconst (v := 0) hx hb dX12_common_8 (by decide) ?_
  refine lc_eq (tgt := 31) hx hb dX12_common_9 dX12_common_10 (by decide) (fun c1 => ?_) (fun c1 => ?_)
  · rw [if_pos c1] at hf
    refine lv_lload hx hb dX12_common_31 (lv_at hl 0 rfl) ?_
    have hz := Option.some.inj hf
    subst hz
    exact rtc_l hC hw dX12_common_33
  · rw [if_neg c1] at hf
    refine lv_lload hx hb dX12_common_13 (lv_at hl 0 rfl) ?_
    refine lv_lload hx hb dX12_common_15 (lv_at hl 1 rfl) ?_
    obtain ⟨h2, hf⟩ := ck_e hf
    refine lv_lrem hx hb dX12_common_17 h2 ?_
    obtain ⟨y3, ey3, hf⟩ := sq_e hf
    refine lt_l ey3 ?_
    refine lv_lstore (lv' := [(8, .long y3), (4, .long x4), (6, .long x6)]) hx hb dX12_common_18 hl (by decide) rfl (fun ls hl => ?_)
    refine lv_lload hx hb dX12_common_20 (lv_at hl 2 rfl) ?_
    refine lv_lstore (lv' := [(4, .long x6), (8, .long y3), (6, .long x6)]) hx hb dX12_common_22 hl (by decide) rfl (fun ls hl => ?_)
    refine lv_lload hx hb dX12_common_24 (lv_at hl 1 rfl) ?_
    refine lv_lstore (lv' := [(6, .long y3), (4, .long x6), (8, .long y3)]) hx hb dX12_common_26 hl (by decide) rfl (fun ls hl => ?_)
    refine lv_goto (tgt := 6) hx hb dX12_common_28 (by decide) ?_
    exact hq6 _ _ _ _ _ hf hw (lv_sub hl [1, 0] rfl)
set_option maxRecDepth 100000 in
set_option maxHeartbeats 4000000 in
theorem k_X12_common_6l {p : Program} {l : Launch} {e : Env} {s : State} {m : MethodId} {args : Array Value} {below : List Frame} {meth : Method} {c : Code} {T : wd_T} {D : va_G} {cy : Nat → ClassId} {z0 : Nat} {ad : Nat → Nat} {X : va_W} {M : mm_M} {u : Nat × Nat} (hC : cx_C p s m args meth c cX12_common "RhymedThenModel" (Cond.code yX12_common cX12_common 10 (some .long)) 10 (some .long)) {z : Int64} : ∀ (n : Nat) (x4 : Int64) (x6 : Int64) (H : Heap) (locs : List Loc) (ls : Array Slot), f_X12_common_6l n x4 x6 = some z → wd_in T D cy z0 ad u M X s H locs → lv_has ls 10 [(4, .long x4), (6, .long x6)] → W p l e { frames := 0, cells := 0, slots := 0, locals := 0 } s m args below meth c H locs 0 0 (MQ below (cq_l T D cy z0 ad u X z M) args s 0 0 (fun q => z0 ≤ q)) (F0 m 6 ls []) := by
  intro n
  induction n with
  | zero => intro x4 x6 H locs ls hf; exact absurd hf (by simp [f_X12_common_6l])
  | succ n ih => intro x4 x6 H locs ls hf hw hl; exact k_X12_common_6 hC ih hf hw hl
set_option maxRecDepth 100000 in
set_option maxHeartbeats 4000000 in
theorem k_X12_common {p : Program} {l : Launch} {e : Env} {s : State} {m : MethodId} {args : Array Value} {below : List Frame} {meth : Method} {c : Code} {T : wd_T} {D : va_G} {cy : Nat → ClassId} {z0 : Nat} {ad : Nat → Nat} {X : va_W} {M : mm_M} {u : Nat × Nat} (hC : cx_C p s m args meth c cX12_common "RhymedThenModel" (Cond.code yX12_common cX12_common 10 (some .long)) 10 (some .long)) {z : Int64} {x0 : Int64} {x2 : Int64} (hf : f_X12_common x0 x2 = some z) {H : Heap} {locs : List Loc} (hw : wd_in T D cy z0 ad u M X s H locs) {ls : Array Slot} (hl : lv_has ls 10 [(0, .long x0), (2, .long x2)]) : W p l e { frames := 0, cells := 0, slots := 0, locals := 0 } s m args below meth c H locs 0 0 (MQ below (cq_l T D cy z0 ad u X z M) args s 0 0 (fun q => z0 ≤ q)) (F0 m 0 ls []) := by
  have hx := hC.1
  have hb := hC.2.1
  unfold f_X12_common at hf
  refine lv_lload_n hx hb dX12_common_0 rfl (lv_at hl 0 rfl) ?_
  refine lv_lstore (lv' := [(4, .long x0), (0, .long x0), (2, .long x2)]) hx hb dX12_common_1 hl (by decide) rfl (fun ls hl => ?_)
  refine lv_lload_n hx hb dX12_common_3 rfl (lv_at hl 2 rfl) ?_
  refine lv_lstore (lv' := [(6, .long x2), (4, .long x0), (0, .long x0), (2, .long x2)]) hx hb dX12_common_4 hl (by decide) rfl (fun ls hl => ?_)
  exact k_X12_common_6l hC fu_ _ _ _ _ _ hf hw (lv_sub hl [1, 0] rfl)
set_option maxRecDepth 100000 in
theorem c_X12_common {l : Launch} {T : wd_T} {D : va_G} {cy : Nat → ClassId} {z0 : Nat} {ad : Nat → Nat} {u : Nat × Nat} {X : va_W} {z : Int64} {x0 : Int64} {x2 : Int64} {M : mm_M} (hf : f_X12_common x0 x2 = some z) : ct_l T l yX12_common (Cond.code yX12_common cX12_common 10 (some .long)) 0 0 D cy z0 ad u M X [.long x0, .long x2] z M := by
  refine bgc_l (by decide) (fun p e s m below meth c hC hw => ?_)
  refine en_t (Nat.le_of_ble_eq_true rfl) (fun ls hl => ?_)
  have hl : lv_has ls 10 [(0, .long x0), (2, .long x2)] := hl
  exact k_X12_common hC hf hw hl
set_option maxRecDepth 100000 in
set_option maxHeartbeats 4000000 in
theorem k_X12_entersFraction {p : Program} {l : Launch} {e : Env} {s : State} {m : MethodId} {args : Array Value} {below : List Frame} {meth : Method} {c : Code} {D : va_G} {cy : Nat → ClassId} {z0 : Nat} {ad : Nat → Nat} {X : va_W} {u : Nat × Nat} (hC : cx_C p s m args meth c cX12_entersFraction "RhymedThenModel" (Cond.code yX12_entersFraction cX12_entersFraction 7 none) 7 none) {z : mm_M} {x1 : Int64} {x3 : Int64} {M : mm_M} (hf : f_X12_entersFraction x1 x3 M = some z) {H : Heap} {locs : List Loc} (hw : wd_in rf_T D cy z0 ad u M X s H locs) {ls : Array Slot} (hl : lv_has ls 7 [(0, .ref (ad 0)), (1, .long x1), (3, .long x3)]) : W p l e { frames := 1, cells := 0, slots := 0, locals := 29 } s m args below meth c H locs 0 0 (MQ below (cq_v rf_T D cy z0 ad u X z) args s 0 0 (fun q => z0 ≤ q)) (F0 m 0 ls []) := by
  have hx := hC.1
  have hb := hC.2.1
  unfold f_X12_entersFraction at hf
  refine lv_lload_n hx hb dX12_entersFraction_0 rfl (lv_at hl 1 rfl) ?_
  refine lv_lload_n hx hb dX12_entersFraction_1 rfl (lv_at hl 2 rfl) ?_
  obtain ⟨z1, ez1, hf⟩ := bd_e hf
  refine clc_Sl hC hw (c_X12_common ez1) hd_X12_common cw_X12_14 (rest := []) hl.1 rfl (Nat.le_of_ble_eq_true rfl) ⟨Nat.le_of_ble_eq_true rfl, Nat.le_of_ble_eq_true rfl⟩ ⟨Nat.zero_le _, Nat.zero_le _⟩ rfl dX12_entersFraction_2 (fun H locs hw => ?_)
  refine lv_lstore (lv' := [(5, .long z1), (0, .ref (ad 0)), (1, .long x1), (3, .long x3)]) hx hb dX12_entersFraction_5 hl (by decide) rfl (fun ls hl => ?_)
  refine lv_aload_n hx hb dX12_entersFraction_7 rfl (lv_at hl 1 rfl) ?_
  refine lv_lload_n hx hb dX12_entersFraction_8 rfl (lv_at hl 2 rfl) ?_
  refine lv_lload hx hb dX12_entersFraction_9 (lv_at hl 0 rfl) ?_
  obtain ⟨h2, hf⟩ := ck_e hf
  refine lv_ldiv hx hb dX12_entersFraction_11 h2 ?_
  obtain ⟨z3, ez3, hf⟩ := bd_e hf
  refine clc_Vv hC hw (c_X12_enters ez3) hd_X12_enters cw_X12_18 (Nat.le_of_ble_eq_true rfl) rfl rfl (rest := []) hl.1 rfl (Nat.le_of_ble_eq_true rfl) ⟨Nat.le_of_ble_eq_true rfl, Nat.le_of_ble_eq_true rfl⟩ ⟨Nat.zero_le _, Nat.zero_le _⟩ rfl dX12_entersFraction_12 (fun H locs hw => ?_)
  refine lv_aload_n hx hb dX12_entersFraction_15 rfl (lv_at hl 1 rfl) ?_
  refine lv_lload_n hx hb dX12_entersFraction_16 rfl (lv_at hl 3 rfl) ?_
  refine lv_lload hx hb dX12_entersFraction_17 (lv_at hl 0 rfl) ?_
  obtain ⟨h4, hf⟩ := ck_e hf
  refine lv_ldiv hx hb dX12_entersFraction_19 h4 ?_
  obtain ⟨z5, ez5, hf⟩ := bd_e hf
  refine clc_Vv hC hw (c_X12_enters ez5) hd_X12_enters cw_X12_18 (Nat.le_of_ble_eq_true rfl) rfl rfl (rest := []) hl.1 rfl (Nat.le_of_ble_eq_true rfl) ⟨Nat.le_of_ble_eq_true rfl, Nat.le_of_ble_eq_true rfl⟩ ⟨Nat.zero_le _, Nat.zero_le _⟩ rfl dX12_entersFraction_20 (fun H locs hw => ?_)
  have hz := Option.some.inj hf
  subst hz
  exact rtc_v hC hw dX12_entersFraction_23
set_option maxRecDepth 100000 in
theorem c_X12_entersFraction {l : Launch} {D : va_G} {cy : Nat → ClassId} {z0 : Nat} {ad : Nat → Nat} {u : Nat × Nat} {X : va_W} {z : mm_M} {x1 : Int64} {x3 : Int64} {M : mm_M} (hf : f_X12_entersFraction x1 x3 M = some z) : ct_v rf_T l yX12_entersFraction (Cond.code yX12_entersFraction cX12_entersFraction 7 none) 1 29 D cy z0 ad u M X [.ref (ad 0), .long x1, .long x3] z := by
  refine bgc_v (by decide) (fun p e s m below meth c hC hw => ?_)
  refine en_t (Nat.le_of_ble_eq_true rfl) (fun ls hl => ?_)
  have hl : lv_has ls 7 [(0, .ref (ad 0)), (1, .long x1), (3, .long x3)] := hl
  exact k_X12_entersFraction hC hf hw hl
set_option maxRecDepth 100000 in
set_option maxHeartbeats 4000000 in
theorem k_X12_sign_53 {p : Program} {l : Launch} {e : Env} {s : State} {m : MethodId} {args : Array Value} {below : List Frame} {meth : Method} {c : Code} {D : va_G} {cy : Nat → ClassId} {z0 : Nat} {ad : Nat → Nat} {X : va_W} {u : Nat × Nat} (hC : cx_C p s m args meth c cX12_sign "RhymedThenModel" (Cond.code yX12_sign cX12_sign 3 (some .int)) 3 (some .int)) {z : (Int32 × mm_M)} {M : mm_M} (hf : f_X12_sign_53 M = some z) {H : Heap} {locs : List Loc} (hw : wd_in rf_T D cy z0 ad u M X s H locs) {ls : Array Slot} (hl : lv_has ls 3 [(0, .ref (ad 0))]) : W p l e { frames := 0, cells := 0, slots := 0, locals := 0 } s m args below meth c H locs 0 0 (MQ below (cq_i rf_T D cy z0 ad u X z.1 z.2) args s 0 0 (fun q => z0 ≤ q)) (F0 m 53 ls []) := by
  have hx := hC.1
  have hb := hC.2.1
  unfold f_X12_sign_53 at hf
  refine lv_aload_n hx hb dX12_sign_53 rfl (lv_at hl 0 rfl) ?_
  refine lv_dup hx hb dX12_sign_54 rfl ?_
  refine rg_i hC hw 0 (Nat.le_of_ble_eq_true rfl) rfl fd_X12_4 wf_X12_22 dX12_sign_55 ?_
  refine lv_iconst (v := 4) hx hb dX12_sign_58 (by decide) ?_
  refine lv_iadd hx hb dX12_sign_59 ?_
  obtain ⟨M7, eM7, hf⟩ := sq_e hf
  refine rp_i hC hw 0 (Nat.le_of_ble_eq_true rfl) rfl fd_X12_4 wf_X12_22 fp_X12_4 rfl rfl dX12_sign_60 eM7 (fun H locs hw => ?_)
  refine lv_aload_n hx hb dX12_sign_63 rfl (lv_at hl 0 rfl) ?_
  refine rg_i hC hw 0 (Nat.le_of_ble_eq_true rfl) rfl fd_X12_4 wf_X12_22 dX12_sign_64 ?_
  have hz := Option.some.inj hf
  subst hz
  exact rtc_i hC hw dX12_sign_67
set_option maxRecDepth 100000 in
set_option maxHeartbeats 4000000 in
theorem k_X12_sign_18 {p : Program} {l : Launch} {e : Env} {s : State} {m : MethodId} {args : Array Value} {below : List Frame} {meth : Method} {c : Code} {D : va_G} {cy : Nat → ClassId} {z0 : Nat} {ad : Nat → Nat} {X : va_W} {u : Nat × Nat} (hC : cx_C p s m args meth c cX12_sign "RhymedThenModel" (Cond.code yX12_sign cX12_sign 3 (some .int)) 3 (some .int)) {z : (Int32 × mm_M)} {x1 : Int32} {x2 : Int32} {M : mm_M} {q18 : Int32 → Int32 → mm_M → Option (Int32 × mm_M)} (hq18 : ∀ (x1 : Int32) (x2 : Int32) (M : mm_M) (H : Heap) (locs : List Loc) (ls : Array Slot), q18 x1 x2 M = some z → wd_in rf_T D cy z0 ad u M X s H locs → lv_has ls 3 [(0, .ref (ad 0)), (1, .int x1), (2, .int x2)] → W p l e { frames := 0, cells := 0, slots := 0, locals := 0 } s m args below meth c H locs 0 0 (MQ below (cq_i rf_T D cy z0 ad u X z.1 z.2) args s 0 0 (fun q => z0 ≤ q)) (F0 m 18 ls [])) (hf : f_X12_sign_18 q18 x1 x2 M = some z) {H : Heap} {locs : List Loc} (hw : wd_in rf_T D cy z0 ad u M X s H locs) {ls : Array Slot} (hl : lv_has ls 3 [(0, .ref (ad 0)), (1, .int x1), (2, .int x2)]) : W p l e { frames := 0, cells := 0, slots := 0, locals := 0 } s m args below meth c H locs 0 0 (MQ below (cq_i rf_T D cy z0 ad u X z.1 z.2) args s 0 0 (fun q => z0 ≤ q)) (F0 m 18 ls []) := by
  have hx := hC.1
  have hb := hC.2.1
  unfold f_X12_sign_18 at hf
  refine lv_iload_n hx hb dX12_sign_18 rfl (lv_at hl 2 rfl) ?_
  refine lv_iconst (v := 4) hx hb dX12_sign_19 (by decide) ?_
  refine lv_icmp_ge (tgt := 53) hx hb dX12_sign_20 (by decide) (fun c3 => ?_) (fun c3 => ?_)
  · rw [if_pos c3] at hf
    exact k_X12_sign_53 hC hf hw (lv_sub hl [0] rfl)
  · rw [if_neg c3] at hf
    refine lv_aload_n hx hb dX12_sign_23 rfl (lv_at hl 0 rfl) ?_
    refine rg_p hC hw 0 (Nat.le_of_ble_eq_true rfl) rfl fd_X12_3 wf_X12_25 (q := 2) rfl dX12_sign_24 ?_
    refine lv_aload_n hx hb dX12_sign_27 rfl (lv_at hl 0 rfl) ?_
    refine rg_i hC hw 0 (Nat.le_of_ble_eq_true rfl) rfl fd_X12_4 wf_X12_22 dX12_sign_28 ?_
    refine lv_iload_n hx hb dX12_sign_31 rfl (lv_at hl 2 rfl) ?_
    refine lv_iadd hx hb dX12_sign_32 ?_
    refine lv_iload_n hx hb dX12_sign_33 rfl (lv_at hl 1 rfl) ?_
    refine lv_bipush (v := 24) hx hb dX12_sign_34 (by decide) ?_
    refine lv_bipush (v := 8) hx hb dX12_sign_36 (by decide) ?_
    refine lv_iload_n hx hb dX12_sign_38 rfl (lv_at hl 2 rfl) ?_
    refine lv_imul hx hb dX12_sign_39 ?_
    refine lv_isub hx hb dX12_sign_40 ?_
    refine lv_ishr hx hb dX12_sign_41 ?_
    refine lv_sipush (v := 255) hx hb dX12_sign_42 (by decide) ?_
    refine lv_iand hx hb dX12_sign_45 ?_
    obtain ⟨h4, hf⟩ := ck_e hf
    obtain ⟨M5, eM5, hf⟩ := sq_e hf
    refine rs_i hC hw 2 (Nat.le_of_ble_eq_true rfl) rfl h4 dX12_sign_46 eM5 (fun H locs hw => ?_)
    obtain ⟨y6, ey6, hf⟩ := sq_e hf
    refine lv_iinc (v := y6) (lv' := [(2, .int y6), (0, .ref (ad 0)), (1, .int x1)]) hx hb dX12_sign_47 hl (k := 2) rfl (by rw [ey6]; rfl) (by decide) rfl (fun ls hl => ?_)
    refine lv_goto (tgt := 18) hx hb dX12_sign_50 (by decide) ?_
    exact hq18 _ _ _ _ _ _ hf hw (lv_sub hl [1, 2, 0] rfl)
set_option maxRecDepth 100000 in
set_option maxHeartbeats 4000000 in
theorem k_X12_sign_18l {p : Program} {l : Launch} {e : Env} {s : State} {m : MethodId} {args : Array Value} {below : List Frame} {meth : Method} {c : Code} {D : va_G} {cy : Nat → ClassId} {z0 : Nat} {ad : Nat → Nat} {X : va_W} {u : Nat × Nat} (hC : cx_C p s m args meth c cX12_sign "RhymedThenModel" (Cond.code yX12_sign cX12_sign 3 (some .int)) 3 (some .int)) {z : (Int32 × mm_M)} : ∀ (n : Nat) (x1 : Int32) (x2 : Int32) (M : mm_M) (H : Heap) (locs : List Loc) (ls : Array Slot), f_X12_sign_18l n x1 x2 M = some z → wd_in rf_T D cy z0 ad u M X s H locs → lv_has ls 3 [(0, .ref (ad 0)), (1, .int x1), (2, .int x2)] → W p l e { frames := 0, cells := 0, slots := 0, locals := 0 } s m args below meth c H locs 0 0 (MQ below (cq_i rf_T D cy z0 ad u X z.1 z.2) args s 0 0 (fun q => z0 ≤ q)) (F0 m 18 ls []) := by
  intro n
  induction n with
  | zero => intro x1 x2 M H locs ls hf; exact absurd hf (by simp [f_X12_sign_18l])
  | succ n ih => intro x1 x2 M H locs ls hf hw hl; exact k_X12_sign_18 hC ih hf hw hl
set_option maxRecDepth 100000 in
set_option maxHeartbeats 4000000 in
theorem k_X12_sign {p : Program} {l : Launch} {e : Env} {s : State} {m : MethodId} {args : Array Value} {below : List Frame} {meth : Method} {c : Code} {D : va_G} {cy : Nat → ClassId} {z0 : Nat} {ad : Nat → Nat} {X : va_W} {u : Nat × Nat} (hC : cx_C p s m args meth c cX12_sign "RhymedThenModel" (Cond.code yX12_sign cX12_sign 3 (some .int)) 3 (some .int)) {z : (Int32 × mm_M)} {x1 : Int32} {M : mm_M} (hf : f_X12_sign x1 M = some z) {H : Heap} {locs : List Loc} (hw : wd_in rf_T D cy z0 ad u M X s H locs) {ls : Array Slot} (hl : lv_has ls 3 [(0, .ref (ad 0)), (1, .int x1)]) : W p l e { frames := 0, cells := 0, slots := 0, locals := 0 } s m args below meth c H locs 0 0 (MQ below (cq_i rf_T D cy z0 ad u X z.1 z.2) args s 0 0 (fun q => z0 ≤ q)) (F0 m 0 ls []) := by
  have hx := hC.1
  have hb := hC.2.1
  unfold f_X12_sign at hf
  refine lv_aload_n hx hb dX12_sign_0 rfl (lv_at hl 0 rfl) ?_
  refine lv_iconst (v := 0) hx hb dX12_sign_1 (by decide) ?_
  obtain ⟨M1, eM1, hf⟩ := sq_e hf
  refine rp_i hC hw 0 (Nat.le_of_ble_eq_true rfl) rfl fd_X12_0 wf_X12_1 fp_X12_0 rfl rfl dX12_sign_2 eM1 (fun H locs hw => ?_)
  refine lv_aload_n hx hb dX12_sign_5 rfl (lv_at hl 0 rfl) ?_
  refine rg_i hC hw 0 (Nat.le_of_ble_eq_true rfl) rfl fd_X12_4 wf_X12_22 dX12_sign_6 ?_
  refine lv_bipush (v := 36) hx hb dX12_sign_9 (by decide) ?_
  refine lv_icmp_le (tgt := 16) hx hb dX12_sign_11 (by decide) (fun c2 => ?_) (fun c2 => ?_)
  · rw [if_pos c2] at hf
    refine lv_iconst (v := 0) hx hb dX12_sign_16 (by decide) ?_
    refine lv_istore_n (lv' := [(2, .int 0), (0, .ref (ad 0)), (1, .int x1)]) hx hb dX12_sign_17 rfl hl (by decide) rfl (fun ls hl => ?_)
    exact k_X12_sign_18l hC fu_ _ _ _ _ _ _ hf hw (lv_sub hl [1, 2, 0] rfl)
  · rw [if_neg c2] at hf
    refine lv_iconst (v := (-1)) hx hb dX12_sign_14 (by decide) ?_
    have hz := Option.some.inj hf
    subst hz
    exact rtc_i hC hw dX12_sign_15
set_option maxRecDepth 100000 in
theorem c_X12_sign {l : Launch} {D : va_G} {cy : Nat → ClassId} {z0 : Nat} {ad : Nat → Nat} {u : Nat × Nat} {X : va_W} {z : (Int32 × mm_M)} {x1 : Int32} {M : mm_M} (hf : f_X12_sign x1 M = some z) : ct_i rf_T l yX12_sign (Cond.code yX12_sign cX12_sign 3 (some .int)) 0 0 D cy z0 ad u M X [.ref (ad 0), .int x1] z.1 z.2 := by
  refine bgc_i (by decide) (fun p e s m below meth c hC hw => ?_)
  refine en_t (Nat.le_of_ble_eq_true rfl) (fun ls hl => ?_)
  have hl : lv_has ls 3 [(0, .ref (ad 0)), (1, .int x1)] := hl
  exact k_X12_sign hC hf hw hl
set_option maxRecDepth 100000 in
set_option maxHeartbeats 4000000 in
theorem k_X12_end {p : Program} {l : Launch} {e : Env} {s : State} {m : MethodId} {args : Array Value} {below : List Frame} {meth : Method} {c : Code} {D : va_G} {cy : Nat → ClassId} {z0 : Nat} {ad : Nat → Nat} {X : va_W} {u : Nat × Nat} (hC : cx_C p s m args meth c cX12_end "RhymedThenModel" (Cond.code yX12_end cX12_end 2 (some .boolean)) 2 (some .boolean)) {z : (Int32 × mm_M)} {x1 : Int32} {M : mm_M} (hf : f_X12_end x1 M = z) {H : Heap} {locs : List Loc} (hw : wd_in rf_T D cy z0 ad u M X s H locs) {ls : Array Slot} (hl : lv_has ls 2 [(0, .ref (ad 0)), (1, .int x1)]) : W p l e { frames := 1, cells := 0, slots := 0, locals := 25 } s m args below meth c H locs 0 0 (MQ below (cq_i rf_T D cy z0 ad u X z.1 z.2) args s 0 0 (fun q => z0 ≤ q)) (F0 m 0 ls []) := by
  have hx := hC.1
  have hb := hC.2.1
  unfold f_X12_end at hf
  refine lv_aload_n hx hb dX12_end_0 rfl (lv_at hl 0 rfl) ?_
  refine lv_iconst (v := 0) hx hb dX12_end_1 (by decide) ?_
  obtain ⟨M1, eM1, hf⟩ := sq_e hf
  refine rp_i hC hw 0 (Nat.le_of_ble_eq_true rfl) rfl fd_X12_0 wf_X12_1 fp_X12_0 rfl rfl dX12_end_2 eM1 (fun H locs hw => ?_)
  refine lv_iload_n hx hb dX12_end_5 rfl (lv_at hl 1 rfl) ?_
  refine lv_i2l hx hb dX12_end_6 rfl ?_
  refine lv_lconst (v := 0) hx hb dX12_end_7 (by decide) ?_
  refine lv_aload_n hx hb dX12_end_8 rfl (lv_at hl 0 rfl) ?_
  refine rg_i hC hw 0 (Nat.le_of_ble_eq_true rfl) rfl fd_X12_4 wf_X12_22 dX12_end_9 ?_
  refine lv_i2l hx hb dX12_end_12 rfl ?_
  obtain ⟨z2, ez2, hf⟩ := sq_e hf
  refine clc_Si hC hw (c_X12_in ez2.symm) hd_X12_in cw_X12_29 (rest := []) hl.1 rfl (Nat.le_of_ble_eq_true rfl) ⟨Nat.le_of_ble_eq_true rfl, Nat.le_of_ble_eq_true rfl⟩ ⟨Nat.zero_le _, Nat.zero_le _⟩ rfl dX12_end_13 (fun H locs hw => ?_)
  refine lv_if_ne (tgt := 21) hx hb dX12_end_16 (by decide) (fun c3 => ?_) (fun c3 => ?_)
  · rw [if_neg c3] at hf
    refine lv_aload_n hx hb dX12_end_21 rfl (lv_at hl 0 rfl) ?_
    refine lv_iload_n hx hb dX12_end_22 rfl (lv_at hl 1 rfl) ?_
    obtain ⟨M4, eM4, hf⟩ := sq_e hf
    refine rp_i hC hw 0 (Nat.le_of_ble_eq_true rfl) rfl fd_X12_4 wf_X12_22 fp_X12_4 rfl rfl dX12_end_23 eM4 (fun H locs hw => ?_)
    refine lv_iconst (v := 1) hx hb dX12_end_26 (by decide) ?_
    subst hf
    exact rtc_z hC hw (Or.inr rfl) dX12_end_27
  · rw [if_pos c3] at hf
    refine lv_iconst (v := 0) hx hb dX12_end_19 (by decide) ?_
    subst hf
    exact rtc_z hC hw (Or.inl rfl) dX12_end_20
set_option maxRecDepth 100000 in
theorem c_X12_end {l : Launch} {D : va_G} {cy : Nat → ClassId} {z0 : Nat} {ad : Nat → Nat} {u : Nat × Nat} {X : va_W} {z : (Int32 × mm_M)} {x1 : Int32} {M : mm_M} (hf : f_X12_end x1 M = z) : ct_i rf_T l yX12_end (Cond.code yX12_end cX12_end 2 (some .boolean)) 1 25 D cy z0 ad u M X [.ref (ad 0), .int x1] z.1 z.2 := by
  refine bgc_i (by decide) (fun p e s m below meth c hC hw => ?_)
  refine en_t (Nat.le_of_ble_eq_true rfl) (fun ls hl => ?_)
  have hl : lv_has ls 2 [(0, .ref (ad 0)), (1, .int x1)] := hl
  exact k_X12_end hC hf hw hl
set_option maxRecDepth 100000 in
set_option maxHeartbeats 4000000 in
theorem k_X12_comes_29 {p : Program} {l : Launch} {e : Env} {s : State} {m : MethodId} {args : Array Value} {below : List Frame} {meth : Method} {c : Code} {D : va_G} {cy : Nat → ClassId} {z0 : Nat} {ad : Nat → Nat} {X : va_W} {u : Nat × Nat} (hC : cx_C p s m args meth c cX12_comes "RhymedThenModel" (Cond.code yX12_comes cX12_comes 3 (some .boolean)) 3 (some .boolean)) {z : (Int32 × mm_M)} {t0 : Int32} {M : mm_M} (hf : f_X12_comes_29 t0 M = some z) {H : Heap} {locs : List Loc} (hw : wd_in rf_T D cy z0 ad u M X s H locs) {ls : Array Slot} (hl : lv_has ls 3 [(0, .ref (ad 0))]) : W p l e { frames := 1, cells := 0, slots := 0, locals := 20 } s m args below meth c H locs 0 0 (MQ below (cq_i rf_T D cy z0 ad u X z.1 z.2) args s 0 0 (fun q => z0 ≤ q)) (F0 m 29 ls [.int t0]) := by
  have hx := hC.1
  have hb := hC.2.1
  unfold f_X12_comes_29 at hf
  refine lv_istore_n (lv' := [(2, .int t0), (0, .ref (ad 0))]) hx hb dX12_comes_29 rfl hl (by decide) rfl (fun ls hl => ?_)
  refine lv_aload_n hx hb dX12_comes_30 rfl (lv_at hl 1 rfl) ?_
  refine lv_dup hx hb dX12_comes_31 rfl ?_
  refine rg_i hC hw 0 (Nat.le_of_ble_eq_true rfl) rfl fd_X12_5 wf_X12_33 dX12_comes_32 ?_
  refine lv_iload_n hx hb dX12_comes_35 rfl (lv_at hl 0 rfl) ?_
  obtain ⟨z4, ez4, hf⟩ := sq_e hf
  refine clc_Si hC hw (c_X12_truth ez4.symm) hd_X12_truth cw_X12_39 (rest := [.int (M.1 0 5), .ref (ad 0)]) hl.1 rfl (Nat.le_of_ble_eq_true rfl) ⟨Nat.le_of_ble_eq_true rfl, Nat.le_of_ble_eq_true rfl⟩ ⟨Nat.zero_le _, Nat.zero_le _⟩ rfl dX12_comes_36 (fun H locs hw => ?_)
  refine lv_iadd hx hb dX12_comes_39 ?_
  obtain ⟨M5, eM5, hf⟩ := sq_e hf
  refine rp_i hC hw 0 (Nat.le_of_ble_eq_true rfl) rfl fd_X12_5 wf_X12_33 fp_X12_5 rfl rfl dX12_comes_40 eM5 (fun H locs hw => ?_)
  refine lv_iload_n hx hb dX12_comes_43 rfl (lv_at hl 0 rfl) ?_
  obtain ⟨h6, hf⟩ := ck_e hf
  have hz := Option.some.inj hf
  subst hz
  exact rtc_z hC hw h6 dX12_comes_44
set_option maxRecDepth 100000 in
set_option maxHeartbeats 4000000 in
theorem k_X12_comes_28 {p : Program} {l : Launch} {e : Env} {s : State} {m : MethodId} {args : Array Value} {below : List Frame} {meth : Method} {c : Code} {D : va_G} {cy : Nat → ClassId} {z0 : Nat} {ad : Nat → Nat} {X : va_W} {u : Nat × Nat} (hC : cx_C p s m args meth c cX12_comes "RhymedThenModel" (Cond.code yX12_comes cX12_comes 3 (some .boolean)) 3 (some .boolean)) {z : (Int32 × mm_M)} {M : mm_M} (hf : f_X12_comes_28 M = some z) {H : Heap} {locs : List Loc} (hw : wd_in rf_T D cy z0 ad u M X s H locs) {ls : Array Slot} (hl : lv_has ls 3 [(0, .ref (ad 0))]) : W p l e { frames := 1, cells := 0, slots := 0, locals := 20 } s m args below meth c H locs 0 0 (MQ below (cq_i rf_T D cy z0 ad u X z.1 z.2) args s 0 0 (fun q => z0 ≤ q)) (F0 m 28 ls []) := by
  have hx := hC.1
  have hb := hC.2.1
  unfold f_X12_comes_28 at hf
  refine lv_iconst (v := 0) hx hb dX12_comes_28 (by decide) ?_
  exact k_X12_comes_29 hC hf hw (lv_sub hl [0] rfl)
set_option maxRecDepth 100000 in
set_option maxHeartbeats 4000000 in
theorem k_X12_comes {p : Program} {l : Launch} {e : Env} {s : State} {m : MethodId} {args : Array Value} {below : List Frame} {meth : Method} {c : Code} {D : va_G} {cy : Nat → ClassId} {z0 : Nat} {ad : Nat → Nat} {X : va_W} {u : Nat × Nat} (hC : cx_C p s m args meth c cX12_comes "RhymedThenModel" (Cond.code yX12_comes cX12_comes 3 (some .boolean)) 3 (some .boolean)) {z : (Int32 × mm_M)} {x1 : Int32} {M : mm_M} (hf : f_X12_comes x1 M = some z) {H : Heap} {locs : List Loc} (hw : wd_in rf_T D cy z0 ad u M X s H locs) {ls : Array Slot} (hl : lv_has ls 3 [(0, .ref (ad 0)), (1, .int x1)]) : W p l e { frames := 1, cells := 0, slots := 0, locals := 20 } s m args below meth c H locs 0 0 (MQ below (cq_i rf_T D cy z0 ad u X z.1 z.2) args s 0 0 (fun q => z0 ≤ q)) (F0 m 0 ls []) := by
  have hx := hC.1
  have hb := hC.2.1
  unfold f_X12_comes at hf
  refine lv_aload_n hx hb dX12_comes_0 rfl (lv_at hl 0 rfl) ?_
  refine rg_i hC hw 0 (Nat.le_of_ble_eq_true rfl) rfl fd_X12_5 wf_X12_33 dX12_comes_1 ?_
  refine lv_aload_n hx hb dX12_comes_4 rfl (lv_at hl 0 rfl) ?_
  refine rg_i hC hw 0 (Nat.le_of_ble_eq_true rfl) rfl fd_X12_6 wf_X12_36 dX12_comes_5 ?_
  refine lv_icmp_ge (tgt := 28) hx hb dX12_comes_8 (by decide) (fun c1 => ?_) (fun c1 => ?_)
  · rw [if_pos c1] at hf
    exact k_X12_comes_28 hC hf hw (lv_sub hl [0] rfl)
  · rw [if_neg c1] at hf
    refine lv_aload_n hx hb dX12_comes_11 rfl (lv_at hl 0 rfl) ?_
    refine rg_p hC hw 0 (Nat.le_of_ble_eq_true rfl) rfl fd_X12_3 wf_X12_25 (q := 2) rfl dX12_comes_12 ?_
    refine lv_aload_n hx hb dX12_comes_15 rfl (lv_at hl 0 rfl) ?_
    refine rg_i hC hw 0 (Nat.le_of_ble_eq_true rfl) rfl fd_X12_5 wf_X12_33 dX12_comes_16 ?_
    obtain ⟨h2, hf⟩ := ck_e hf
    refine ra_i hC hw 2 (Nat.le_of_ble_eq_true rfl) rfl h2 dX12_comes_19 ?_
    refine lv_iload_n hx hb dX12_comes_20 rfl (lv_at hl 1 rfl) ?_
    refine lv_icmp_ne (tgt := 28) hx hb dX12_comes_21 (by decide) (fun c3 => ?_) (fun c3 => ?_)
    · rw [if_neg c3] at hf
      exact k_X12_comes_28 hC hf hw (lv_sub hl [0] rfl)
    · rw [if_pos c3] at hf
      refine lv_iconst (v := 1) hx hb dX12_comes_24 (by decide) ?_
      refine lv_goto (tgt := 29) hx hb dX12_comes_25 (by decide) ?_
      exact k_X12_comes_29 hC hf hw (lv_sub hl [0] rfl)
set_option maxRecDepth 100000 in
theorem c_X12_comes {l : Launch} {D : va_G} {cy : Nat → ClassId} {z0 : Nat} {ad : Nat → Nat} {u : Nat × Nat} {X : va_W} {z : (Int32 × mm_M)} {x1 : Int32} {M : mm_M} (hf : f_X12_comes x1 M = some z) : ct_i rf_T l yX12_comes (Cond.code yX12_comes cX12_comes 3 (some .boolean)) 1 20 D cy z0 ad u M X [.ref (ad 0), .int x1] z.1 z.2 := by
  refine bgc_i (by decide) (fun p e s m below meth c hC hw => ?_)
  refine en_t (Nat.le_of_ble_eq_true rfl) (fun ls hl => ?_)
  have hl : lv_has ls 3 [(0, .ref (ad 0)), (1, .int x1)] := hl
  exact k_X12_comes hC hf hw hl
set_option maxRecDepth 100000 in
set_option maxHeartbeats 4000000 in
theorem k_X12_sound {p : Program} {l : Launch} {e : Env} {s : State} {m : MethodId} {args : Array Value} {below : List Frame} {meth : Method} {c : Code} {D : va_G} {cy : Nat → ClassId} {z0 : Nat} {ad : Nat → Nat} {X : va_W} {u : Nat × Nat} (hC : cx_C p s m args meth c cX12_sound "RhymedThenModel" (Cond.code yX12_sound cX12_sound 1 (some .int)) 1 (some .int)) {z : (Int32 × mm_M)} {M : mm_M} (hf : f_X12_sound M = some z) {H : Heap} {locs : List Loc} (hw : wd_in rf_T D cy z0 ad u M X s H locs) {ls : Array Slot} (hl : lv_has ls 1 [(0, .ref (ad 0))]) : W p l e { frames := 1, cells := 0, slots := 0, locals := 25 } s m args below meth c H locs 0 0 (MQ below (cq_i rf_T D cy z0 ad u X z.1 z.2) args s 0 0 (fun q => z0 ≤ q)) (F0 m 0 ls []) := by
  have hx := hC.1
  have hb := hC.2.1
  unfold f_X12_sound at hf
  refine lv_aload_n hx hb dX12_sound_0 rfl (lv_at hl 0 rfl) ?_
  refine rg_i hC hw 0 (Nat.le_of_ble_eq_true rfl) rfl fd_X12_5 wf_X12_33 dX12_sound_1 ?_
  refine lv_aload_n hx hb dX12_sound_4 rfl (lv_at hl 0 rfl) ?_
  refine rg_i hC hw 0 (Nat.le_of_ble_eq_true rfl) rfl fd_X12_6 wf_X12_36 dX12_sound_5 ?_
  refine lv_icmp_ge (tgt := 33) hx hb dX12_sound_8 (by decide) (fun c1 => ?_) (fun c1 => ?_)
  · rw [if_pos c1] at hf
    refine lv_iconst (v := (-1)) hx hb dX12_sound_33 (by decide) ?_
    have hz := Option.some.inj hf
    subst hz
    exact rtc_i hC hw dX12_sound_34
  · rw [if_neg c1] at hf
    refine lv_aload_n hx hb dX12_sound_11 rfl (lv_at hl 0 rfl) ?_
    refine rg_p hC hw 0 (Nat.le_of_ble_eq_true rfl) rfl fd_X12_3 wf_X12_25 (q := 2) rfl dX12_sound_12 ?_
    refine lv_aload_n hx hb dX12_sound_15 rfl (lv_at hl 0 rfl) ?_
    refine rg_i hC hw 0 (Nat.le_of_ble_eq_true rfl) rfl fd_X12_5 wf_X12_33 dX12_sound_16 ?_
    obtain ⟨h2, hf⟩ := ck_e hf
    refine ra_i hC hw 2 (Nat.le_of_ble_eq_true rfl) rfl h2 dX12_sound_19 ?_
    refine lv_i2l hx hb dX12_sound_20 rfl ?_
    refine lv_ldc2 (v := 97) hx hb hC.2.2.2.1 (hC.t wk_X12_43) dX12_sound_21 ?_
    refine lv_ldc2 (v := 112) hx hb hC.2.2.2.1 (hC.t wk_X12_45) dX12_sound_24 ?_
    obtain ⟨z3, ez3, hf⟩ := sq_e hf
    refine clc_Si hC hw (c_X12_in ez3.symm) hd_X12_in cw_X12_29 (rest := []) hl.1 rfl (Nat.le_of_ble_eq_true rfl) ⟨Nat.le_of_ble_eq_true rfl, Nat.le_of_ble_eq_true rfl⟩ ⟨Nat.zero_le _, Nat.zero_le _⟩ rfl dX12_sound_27 (fun H locs hw => ?_)
    refine lv_if_ne (tgt := 35) hx hb dX12_sound_30 (by decide) (fun c4 => ?_) (fun c4 => ?_)
    · rw [if_neg c4] at hf
      refine lv_aload_n hx hb dX12_sound_35 rfl (lv_at hl 0 rfl) ?_
      refine lv_dup hx hb dX12_sound_36 rfl ?_
      refine rg_i hC hw 0 (Nat.le_of_ble_eq_true rfl) rfl fd_X12_5 wf_X12_33 dX12_sound_37 ?_
      refine lv_iconst (v := 1) hx hb dX12_sound_40 (by decide) ?_
      refine lv_iadd hx hb dX12_sound_41 ?_
      obtain ⟨M5, eM5, hf⟩ := sq_e hf
      refine rp_i hC hw 0 (Nat.le_of_ble_eq_true rfl) rfl fd_X12_5 wf_X12_33 fp_X12_5 rfl rfl dX12_sound_42 eM5 (fun H locs hw => ?_)
      refine lv_aload_n hx hb dX12_sound_45 rfl (lv_at hl 0 rfl) ?_
      refine rg_p hC hw 0 (Nat.le_of_ble_eq_true rfl) rfl fd_X12_3 wf_X12_25 (q := 2) rfl dX12_sound_46 ?_
      refine lv_aload_n hx hb dX12_sound_49 rfl (lv_at hl 0 rfl) ?_
      refine rg_i hC hw 0 (Nat.le_of_ble_eq_true rfl) rfl fd_X12_5 wf_X12_33 dX12_sound_50 ?_
      refine lv_iconst (v := 1) hx hb dX12_sound_53 (by decide) ?_
      refine lv_isub hx hb dX12_sound_54 ?_
      obtain ⟨h6, hf⟩ := ck_e hf
      refine ra_i hC hw 2 (Nat.le_of_ble_eq_true rfl) rfl h6 dX12_sound_55 ?_
      refine lv_bipush (v := 97) hx hb dX12_sound_56 (by decide) ?_
      refine lv_isub hx hb dX12_sound_58 ?_
      have hz := Option.some.inj hf
      subst hz
      exact rtc_i hC hw dX12_sound_59
    · rw [if_pos c4] at hf
      refine lv_iconst (v := (-1)) hx hb dX12_sound_33 (by decide) ?_
      have hz := Option.some.inj hf
      subst hz
      exact rtc_i hC hw dX12_sound_34
set_option maxRecDepth 100000 in
theorem c_X12_sound {l : Launch} {D : va_G} {cy : Nat → ClassId} {z0 : Nat} {ad : Nat → Nat} {u : Nat × Nat} {X : va_W} {z : (Int32 × mm_M)} {M : mm_M} (hf : f_X12_sound M = some z) : ct_i rf_T l yX12_sound (Cond.code yX12_sound cX12_sound 1 (some .int)) 1 25 D cy z0 ad u M X [.ref (ad 0)] z.1 z.2 := by
  refine bgc_i (by decide) (fun p e s m below meth c hC hw => ?_)
  refine en_t (Nat.le_of_ble_eq_true rfl) (fun ls hl => ?_)
  have hl : lv_has ls 1 [(0, .ref (ad 0))] := hl
  exact k_X12_sound hC hf hw hl
set_option maxRecDepth 100000 in
set_option maxHeartbeats 4000000 in
theorem k_X12_soundOrClass {p : Program} {l : Launch} {e : Env} {s : State} {m : MethodId} {args : Array Value} {below : List Frame} {meth : Method} {c : Code} {D : va_G} {cy : Nat → ClassId} {z0 : Nat} {ad : Nat → Nat} {X : va_W} {u : Nat × Nat} (hC : cx_C p s m args meth c cX12_soundOrClass "RhymedThenModel" (Cond.code yX12_soundOrClass cX12_soundOrClass 2 (some .int)) 2 (some .int)) {z : (Int32 × mm_M)} {M : mm_M} (hf : f_X12_soundOrClass M = some z) {H : Heap} {locs : List Loc} (hw : wd_in rf_T D cy z0 ad u M X s H locs) {ls : Array Slot} (hl : lv_has ls 2 [(0, .ref (ad 0))]) : W p l e { frames := 2, cells := 0, slots := 0, locals := 45 } s m args below meth c H locs 0 0 (MQ below (cq_i rf_T D cy z0 ad u X z.1 z.2) args s 0 0 (fun q => z0 ≤ q)) (F0 m 0 ls []) := by
  have hx := hC.1
  have hb := hC.2.1
  unfold f_X12_soundOrClass at hf
  refine lv_aload_n hx hb dX12_soundOrClass_0 rfl (lv_at hl 0 rfl) ?_
  obtain ⟨z1, ez1, hf⟩ := bd_e hf
  refine clc_Vi hC hw (c_X12_sound ez1) hd_X12_sound cw_X12_47 (Nat.le_of_ble_eq_true rfl) rfl rfl (rest := []) hl.1 rfl (Nat.le_of_ble_eq_true rfl) ⟨Nat.le_of_ble_eq_true rfl, Nat.le_of_ble_eq_true rfl⟩ ⟨Nat.zero_le _, Nat.zero_le _⟩ rfl dX12_soundOrClass_1 (fun H locs hw => ?_)
  refine lv_istore_n (lv' := [(1, .int z1.1), (0, .ref (ad 0))]) hx hb dX12_soundOrClass_4 rfl hl (by decide) rfl (fun ls hl => ?_)
  refine lv_iload_n hx hb dX12_soundOrClass_5 rfl (lv_at hl 0 rfl) ?_
  refine lv_if_lt (tgt := 11) hx hb dX12_soundOrClass_6 (by decide) (fun c2 => ?_) (fun c2 => ?_)
  · rw [if_pos c2] at hf
    refine lv_aload_n hx hb dX12_soundOrClass_11 rfl (lv_at hl 1 rfl) ?_
    refine rg_i hC hw 0 (Nat.le_of_ble_eq_true rfl) rfl fd_X12_5 wf_X12_33 dX12_soundOrClass_12 ?_
    refine lv_aload_n hx hb dX12_soundOrClass_15 rfl (lv_at hl 1 rfl) ?_
    refine rg_i hC hw 0 (Nat.le_of_ble_eq_true rfl) rfl fd_X12_6 wf_X12_36 dX12_soundOrClass_16 ?_
    refine lv_icmp_ge (tgt := 44) hx hb dX12_soundOrClass_19 (by decide) (fun c3 => ?_) (fun c3 => ?_)
    · rw [if_pos c3] at hf
      refine lv_iconst (v := (-1)) hx hb dX12_soundOrClass_44 (by decide) ?_
      have hz := Option.some.inj hf
      subst hz
      exact rtc_i hC hw dX12_soundOrClass_45
    · rw [if_neg c3] at hf
      refine lv_aload_n hx hb dX12_soundOrClass_22 rfl (lv_at hl 1 rfl) ?_
      refine rg_p hC hw 0 (Nat.le_of_ble_eq_true rfl) rfl fd_X12_3 wf_X12_25 (q := 2) rfl dX12_soundOrClass_23 ?_
      refine lv_aload_n hx hb dX12_soundOrClass_26 rfl (lv_at hl 1 rfl) ?_
      refine rg_i hC hw 0 (Nat.le_of_ble_eq_true rfl) rfl fd_X12_5 wf_X12_33 dX12_soundOrClass_27 ?_
      obtain ⟨h4, hf⟩ := ck_e hf
      refine ra_i hC hw 2 (Nat.le_of_ble_eq_true rfl) rfl h4 dX12_soundOrClass_30 ?_
      refine lv_i2l hx hb dX12_soundOrClass_31 rfl ?_
      refine lv_ldc2 (v := 65) hx hb hC.2.2.2.1 (hC.t wk_X12_51) dX12_soundOrClass_32 ?_
      refine lv_ldc2 (v := 70) hx hb hC.2.2.2.1 (hC.t wk_X12_53) dX12_soundOrClass_35 ?_
      obtain ⟨z5, ez5, hf⟩ := sq_e hf
      refine clc_Si hC hw (c_X12_in ez5.symm) hd_X12_in cw_X12_29 (rest := []) hl.1 rfl (Nat.le_of_ble_eq_true rfl) ⟨Nat.le_of_ble_eq_true rfl, Nat.le_of_ble_eq_true rfl⟩ ⟨Nat.zero_le _, Nat.zero_le _⟩ rfl dX12_soundOrClass_38 (fun H locs hw => ?_)
      refine lv_if_ne (tgt := 46) hx hb dX12_soundOrClass_41 (by decide) (fun c6 => ?_) (fun c6 => ?_)
      · rw [if_neg c6] at hf
        refine lv_aload_n hx hb dX12_soundOrClass_46 rfl (lv_at hl 1 rfl) ?_
        refine lv_dup hx hb dX12_soundOrClass_47 rfl ?_
        refine rg_i hC hw 0 (Nat.le_of_ble_eq_true rfl) rfl fd_X12_5 wf_X12_33 dX12_soundOrClass_48 ?_
        refine lv_iconst (v := 1) hx hb dX12_soundOrClass_51 (by decide) ?_
        refine lv_iadd hx hb dX12_soundOrClass_52 ?_
        obtain ⟨M7, eM7, hf⟩ := sq_e hf
        refine rp_i hC hw 0 (Nat.le_of_ble_eq_true rfl) rfl fd_X12_5 wf_X12_33 fp_X12_5 rfl rfl dX12_soundOrClass_53 eM7 (fun H locs hw => ?_)
        refine lv_bipush (v := 16) hx hb dX12_soundOrClass_56 (by decide) ?_
        refine lv_aload_n hx hb dX12_soundOrClass_58 rfl (lv_at hl 1 rfl) ?_
        refine rg_p hC hw 0 (Nat.le_of_ble_eq_true rfl) rfl fd_X12_3 wf_X12_25 (q := 2) rfl dX12_soundOrClass_59 ?_
        refine lv_aload_n hx hb dX12_soundOrClass_62 rfl (lv_at hl 1 rfl) ?_
        refine rg_i hC hw 0 (Nat.le_of_ble_eq_true rfl) rfl fd_X12_5 wf_X12_33 dX12_soundOrClass_63 ?_
        refine lv_iconst (v := 1) hx hb dX12_soundOrClass_66 (by decide) ?_
        refine lv_isub hx hb dX12_soundOrClass_67 ?_
        obtain ⟨h8, hf⟩ := ck_e hf
        refine ra_i hC hw 2 (Nat.le_of_ble_eq_true rfl) rfl h8 dX12_soundOrClass_68 ?_
        refine lv_iadd hx hb dX12_soundOrClass_69 ?_
        refine lv_bipush (v := 65) hx hb dX12_soundOrClass_70 (by decide) ?_
        refine lv_isub hx hb dX12_soundOrClass_72 ?_
        have hz := Option.some.inj hf
        subst hz
        exact rtc_i hC hw dX12_soundOrClass_73
      · rw [if_pos c6] at hf
        refine lv_iconst (v := (-1)) hx hb dX12_soundOrClass_44 (by decide) ?_
        have hz := Option.some.inj hf
        subst hz
        exact rtc_i hC hw dX12_soundOrClass_45
  · rw [if_neg c2] at hf
    refine lv_iload_n hx hb dX12_soundOrClass_9 rfl (lv_at hl 0 rfl) ?_
    have hz := Option.some.inj hf
    subst hz
    exact rtc_i hC hw dX12_soundOrClass_10
set_option maxRecDepth 100000 in
theorem c_X12_soundOrClass {l : Launch} {D : va_G} {cy : Nat → ClassId} {z0 : Nat} {ad : Nat → Nat} {u : Nat × Nat} {X : va_W} {z : (Int32 × mm_M)} {M : mm_M} (hf : f_X12_soundOrClass M = some z) : ct_i rf_T l yX12_soundOrClass (Cond.code yX12_soundOrClass cX12_soundOrClass 2 (some .int)) 2 45 D cy z0 ad u M X [.ref (ad 0)] z.1 z.2 := by
  refine bgc_i (by decide) (fun p e s m below meth c hC hw => ?_)
  refine en_t (Nat.le_of_ble_eq_true rfl) (fun ls hl => ?_)
  have hl : lv_has ls 2 [(0, .ref (ad 0))] := hl
  exact k_X12_soundOrClass hC hf hw hl
set_option maxRecDepth 100000 in
set_option maxHeartbeats 4000000 in
theorem k_X12_beside {p : Program} {l : Launch} {e : Env} {s : State} {m : MethodId} {args : Array Value} {below : List Frame} {meth : Method} {c : Code} {D : va_G} {cy : Nat → ClassId} {z0 : Nat} {ad : Nat → Nat} {X : va_W} {u : Nat × Nat} (hC : cx_C p s m args meth c cX12_beside "RhymedThenModel" (Cond.code yX12_beside cX12_beside 2 (some .int)) 2 (some .int)) {z : (Int32 × mm_M)} {M : mm_M} (hf : f_X12_beside M = some z) {H : Heap} {locs : List Loc} (hw : wd_in rf_T D cy z0 ad u M X s H locs) {ls : Array Slot} (hl : lv_has ls 2 [(0, .ref (ad 0))]) : W p l e { frames := 3, cells := 0, slots := 0, locals := 66 } s m args below meth c H locs 0 0 (MQ below (cq_i rf_T D cy z0 ad u X z.1 z.2) args s 0 0 (fun q => z0 ≤ q)) (F0 m 0 ls []) := by
  have hx := hC.1
  have hb := hC.2.1
  unfold f_X12_beside at hf
  refine lv_aload_n hx hb dX12_beside_0 rfl (lv_at hl 0 rfl) ?_
  obtain ⟨z1, ez1, hf⟩ := bd_e hf
  refine clc_Vi hC hw (c_X12_soundOrClass ez1) hd_X12_soundOrClass cw_X12_55 (Nat.le_of_ble_eq_true rfl) rfl rfl (rest := []) hl.1 rfl (Nat.le_of_ble_eq_true rfl) ⟨Nat.le_of_ble_eq_true rfl, Nat.le_of_ble_eq_true rfl⟩ ⟨Nat.zero_le _, Nat.zero_le _⟩ rfl dX12_beside_1 (fun H locs hw => ?_)
  refine lv_istore_n (lv' := [(1, .int z1.1), (0, .ref (ad 0))]) hx hb dX12_beside_4 rfl hl (by decide) rfl (fun ls hl => ?_)
  refine lv_iload_n hx hb dX12_beside_5 rfl (lv_at hl 0 rfl) ?_
  refine lv_if_lt (tgt := 13) hx hb dX12_beside_6 (by decide) (fun c2 => ?_) (fun c2 => ?_)
  · rw [if_pos c2] at hf
    refine lv_aload_n hx hb dX12_beside_13 rfl (lv_at hl 1 rfl) ?_
    refine lv_bipush (v := 35) hx hb dX12_beside_14 (by decide) ?_
    obtain ⟨z3, ez3, hf⟩ := bd_e hf
    refine clc_Vi hC hw (c_X12_comes ez3) hd_X12_comes cw_X12_58 (Nat.le_of_ble_eq_true rfl) rfl rfl (rest := []) hl.1 rfl (Nat.le_of_ble_eq_true rfl) ⟨Nat.le_of_ble_eq_true rfl, Nat.le_of_ble_eq_true rfl⟩ ⟨Nat.zero_le _, Nat.zero_le _⟩ rfl dX12_beside_16 (fun H locs hw => ?_)
    refine lv_if_eq (tgt := 27) hx hb dX12_beside_19 (by decide) (fun c4 => ?_) (fun c4 => ?_)
    · rw [if_pos c4] at hf
      refine lv_bipush (v := 23) hx hb dX12_beside_27 (by decide) ?_
      have hz := Option.some.inj hf
      subst hz
      exact rtc_i hC hw dX12_beside_29
    · rw [if_neg c4] at hf
      refine lv_bipush (v := 22) hx hb dX12_beside_22 (by decide) ?_
      refine lv_goto (tgt := 29) hx hb dX12_beside_24 (by decide) ?_
      have hz := Option.some.inj hf
      subst hz
      exact rtc_i hC hw dX12_beside_29
  · rw [if_neg c2] at hf
    refine lv_iload_n hx hb dX12_beside_9 rfl (lv_at hl 0 rfl) ?_
    refine lv_goto (tgt := 29) hx hb dX12_beside_10 (by decide) ?_
    have hz := Option.some.inj hf
    subst hz
    exact rtc_i hC hw dX12_beside_29
set_option maxRecDepth 100000 in
theorem c_X12_beside {l : Launch} {D : va_G} {cy : Nat → ClassId} {z0 : Nat} {ad : Nat → Nat} {u : Nat × Nat} {X : va_W} {z : (Int32 × mm_M)} {M : mm_M} (hf : f_X12_beside M = some z) : ct_i rf_T l yX12_beside (Cond.code yX12_beside cX12_beside 2 (some .int)) 3 66 D cy z0 ad u M X [.ref (ad 0)] z.1 z.2 := by
  refine bgc_i (by decide) (fun p e s m below meth c hC hw => ?_)
  refine en_t (Nat.le_of_ble_eq_true rfl) (fun ls hl => ?_)
  have hl : lv_has ls 2 [(0, .ref (ad 0))] := hl
  exact k_X12_beside hC hf hw hl
set_option maxRecDepth 100000 in
set_option maxHeartbeats 4000000 in
theorem k_X12_group {p : Program} {l : Launch} {e : Env} {s : State} {m : MethodId} {args : Array Value} {below : List Frame} {meth : Method} {c : Code} {D : va_G} {cy : Nat → ClassId} {z0 : Nat} {ad : Nat → Nat} {X : va_W} {u : Nat × Nat} (hC : cx_C p s m args meth c cX12_group "RhymedThenModel" (Cond.code yX12_group cX12_group 4 (some .int)) 4 (some .int)) {z : (Int32 × mm_M)} {x1 : Int32} {x2 : Int32} {M : mm_M} (hf : f_X12_group x1 x2 M = some z) {H : Heap} {locs : List Loc} (hw : wd_in rf_T D cy z0 ad u M X s H locs) {ls : Array Slot} (hl : lv_has ls 4 [(0, .ref (ad 0)), (1, .int x1), (2, .int x2)]) : W p l e { frames := 1, cells := 0, slots := 0, locals := 25 } s m args below meth c H locs 0 0 (MQ below (cq_i rf_T D cy z0 ad u X z.1 z.2) args s 0 0 (fun q => z0 ≤ q)) (F0 m 0 ls []) := by
  have hx := hC.1
  have hb := hC.2.1
  unfold f_X12_group at hf
  refine lv_aload_n hx hb dX12_group_0 rfl (lv_at hl 0 rfl) ?_
  refine lv_iconst (v := 0) hx hb dX12_group_1 (by decide) ?_
  obtain ⟨M1, eM1, hf⟩ := sq_e hf
  refine rp_i hC hw 0 (Nat.le_of_ble_eq_true rfl) rfl fd_X12_0 wf_X12_1 fp_X12_0 rfl rfl dX12_group_2 eM1 (fun H locs hw => ?_)
  refine lv_iload_n hx hb dX12_group_5 rfl (lv_at hl 1 rfl) ?_
  refine lv_i2l hx hb dX12_group_6 rfl ?_
  refine lv_lconst (v := 0) hx hb dX12_group_7 (by decide) ?_
  refine lv_ldc2 (v := 5) hx hb hC.2.2.2.1 (hC.t wk_X12_62) dX12_group_8 ?_
  obtain ⟨z2, ez2, hf⟩ := sq_e hf
  refine clc_Si hC hw (c_X12_in ez2.symm) hd_X12_in cw_X12_29 (rest := []) hl.1 rfl (Nat.le_of_ble_eq_true rfl) ⟨Nat.le_of_ble_eq_true rfl, Nat.le_of_ble_eq_true rfl⟩ ⟨Nat.zero_le _, Nat.zero_le _⟩ rfl dX12_group_11 (fun H locs hw => ?_)
  refine lv_if_eq (tgt := 29) hx hb dX12_group_14 (by decide) (fun c3 => ?_) (fun c3 => ?_)
  · rw [if_pos c3] at hf
    refine lv_iconst (v := (-1)) hx hb dX12_group_29 (by decide) ?_
    have hz := Option.some.inj hf
    subst hz
    exact rtc_i hC hw dX12_group_30
  · rw [if_neg c3] at hf
    refine lv_iload_n hx hb dX12_group_17 rfl (lv_at hl 2 rfl) ?_
    refine lv_i2l hx hb dX12_group_18 rfl ?_
    refine lv_lconst (v := 0) hx hb dX12_group_19 (by decide) ?_
    refine lv_ldc2 (v := 65535) hx hb hC.2.2.2.1 (hC.t wk_X12_64) dX12_group_20 ?_
    obtain ⟨z4, ez4, hf⟩ := sq_e hf
    refine clc_Si hC hw (c_X12_in ez4.symm) hd_X12_in cw_X12_29 (rest := []) hl.1 rfl (Nat.le_of_ble_eq_true rfl) ⟨Nat.le_of_ble_eq_true rfl, Nat.le_of_ble_eq_true rfl⟩ ⟨Nat.zero_le _, Nat.zero_le _⟩ rfl dX12_group_23 (fun H locs hw => ?_)
    refine lv_if_ne (tgt := 31) hx hb dX12_group_26 (by decide) (fun c5 => ?_) (fun c5 => ?_)
    · rw [if_neg c5] at hf
      refine lv_aload_n hx hb dX12_group_31 rfl (lv_at hl 0 rfl) ?_
      refine rg_p hC hw 0 (Nat.le_of_ble_eq_true rfl) rfl fd_X12_7 wf_X12_66 (q := 3) rfl dX12_group_32 ?_
      refine lv_iload_n hx hb dX12_group_35 rfl (lv_at hl 1 rfl) ?_
      obtain ⟨h6, hf⟩ := ck_e hf
      refine ra_i hC hw 3 (Nat.le_of_ble_eq_true rfl) rfl h6 dX12_group_36 ?_
      obtain ⟨y7, ey7, hf⟩ := sq_e hf
      refine lt_i ey7 ?_
      refine lv_istore_n (lv' := [(3, .int y7), (0, .ref (ad 0)), (1, .int x1), (2, .int x2)]) hx hb dX12_group_37 rfl hl (by decide) rfl (fun ls hl => ?_)
      refine lv_aload_n hx hb dX12_group_38 rfl (lv_at hl 1 rfl) ?_
      refine rg_p hC hw 0 (Nat.le_of_ble_eq_true rfl) rfl fd_X12_7 wf_X12_66 (q := 3) rfl dX12_group_39 ?_
      refine lv_iload_n hx hb dX12_group_42 rfl (lv_at hl 2 rfl) ?_
      refine lv_iload_n hx hb dX12_group_43 rfl (lv_at hl 3 rfl) ?_
      obtain ⟨h8, hf⟩ := ck_e hf
      obtain ⟨M9, eM9, hf⟩ := sq_e hf
      refine rs_i hC hw 3 (Nat.le_of_ble_eq_true rfl) rfl h8 dX12_group_44 eM9 (fun H locs hw => ?_)
      refine lv_iload_n hx hb dX12_group_45 rfl (lv_at hl 0 rfl) ?_
      have hz := Option.some.inj hf
      subst hz
      exact rtc_i hC hw dX12_group_46
    · rw [if_pos c5] at hf
      refine lv_iconst (v := (-1)) hx hb dX12_group_29 (by decide) ?_
      have hz := Option.some.inj hf
      subst hz
      exact rtc_i hC hw dX12_group_30
set_option maxRecDepth 100000 in
theorem c_X12_group {l : Launch} {D : va_G} {cy : Nat → ClassId} {z0 : Nat} {ad : Nat → Nat} {u : Nat × Nat} {X : va_W} {z : (Int32 × mm_M)} {x1 : Int32} {x2 : Int32} {M : mm_M} (hf : f_X12_group x1 x2 M = some z) : ct_i rf_T l yX12_group (Cond.code yX12_group cX12_group 4 (some .int)) 1 25 D cy z0 ad u M X [.ref (ad 0), .int x1, .int x2] z.1 z.2 := by
  refine bgc_i (by decide) (fun p e s m below meth c hC hw => ?_)
  refine en_t (Nat.le_of_ble_eq_true rfl) (fun ls hl => ?_)
  have hl : lv_has ls 4 [(0, .ref (ad 0)), (1, .int x1), (2, .int x2)] := hl
  exact k_X12_group hC hf hw hl
set_option maxRecDepth 100000 in
set_option maxHeartbeats 4000000 in
theorem k_X12_word_62 {p : Program} {l : Launch} {e : Env} {s : State} {m : MethodId} {args : Array Value} {below : List Frame} {meth : Method} {c : Code} {D : va_G} {cy : Nat → ClassId} {z0 : Nat} {ad : Nat → Nat} {X : va_W} {u : Nat × Nat} (hC : cx_C p s m args meth c cX12_word "RhymedThenModel" (Cond.code yX12_word cX12_word 3 (some .int)) 3 (some .int)) {z : (Int32 × mm_M)} {M : mm_M} (hf : f_X12_word_62 M = some z) {H : Heap} {locs : List Loc} (hw : wd_in rf_T D cy z0 ad u M X s H locs) {ls : Array Slot} (hl : lv_has ls 3 [(0, .ref (ad 0))]) : W p l e { frames := 2, cells := 0, slots := 0, locals := 45 } s m args below meth c H locs 0 0 (MQ below (cq_i rf_T D cy z0 ad u X z.1 z.2) args s 0 0 (fun q => z0 ≤ q)) (F0 m 62 ls []) := by
  have hx := hC.1
  have hb := hC.2.1
  unfold f_X12_word_62 at hf
  refine lv_iconst (v := (-1)) hx hb dX12_word_62 (by decide) ?_
  refine lv_aload_n hx hb dX12_word_63 rfl (lv_at hl 0 rfl) ?_
  refine rg_i hC hw 0 (Nat.le_of_ble_eq_true rfl) rfl fd_X12_5 wf_X12_33 dX12_word_64 ?_
  refine lv_isub hx hb dX12_word_67 ?_
  have hz := Option.some.inj hf
  subst hz
  exact rtc_i hC hw dX12_word_68
set_option maxRecDepth 100000 in
set_option maxHeartbeats 4000000 in
theorem k_X12_word_102 {p : Program} {l : Launch} {e : Env} {s : State} {m : MethodId} {args : Array Value} {below : List Frame} {meth : Method} {c : Code} {D : va_G} {cy : Nat → ClassId} {z0 : Nat} {ad : Nat → Nat} {X : va_W} {u : Nat × Nat} (hC : cx_C p s m args meth c cX12_word "RhymedThenModel" (Cond.code yX12_word cX12_word 3 (some .int)) 3 (some .int)) {z : (Int32 × mm_M)} {M : mm_M} (hf : f_X12_word_102 M = some z) {H : Heap} {locs : List Loc} (hw : wd_in rf_T D cy z0 ad u M X s H locs) {ls : Array Slot} (hl : lv_has ls 3 [(0, .ref (ad 0))]) : W p l e { frames := 2, cells := 0, slots := 0, locals := 45 } s m args below meth c H locs 0 0 (MQ below (cq_i rf_T D cy z0 ad u X z.1 z.2) args s 0 0 (fun q => z0 ≤ q)) (F0 m 102 ls []) := by
  have hx := hC.1
  have hb := hC.2.1
  unfold f_X12_word_102 at hf
  refine lv_iconst (v := (-1)) hx hb dX12_word_102 (by decide) ?_
  refine lv_aload_n hx hb dX12_word_103 rfl (lv_at hl 0 rfl) ?_
  refine rg_i hC hw 0 (Nat.le_of_ble_eq_true rfl) rfl fd_X12_6 wf_X12_36 dX12_word_104 ?_
  refine lv_isub hx hb dX12_word_107 ?_
  have hz := Option.some.inj hf
  subst hz
  exact rtc_i hC hw dX12_word_108
set_option maxRecDepth 100000 in
set_option maxHeartbeats 4000000 in
theorem k_X12_word_92 {p : Program} {l : Launch} {e : Env} {s : State} {m : MethodId} {args : Array Value} {below : List Frame} {meth : Method} {c : Code} {D : va_G} {cy : Nat → ClassId} {z0 : Nat} {ad : Nat → Nat} {X : va_W} {u : Nat × Nat} (hC : cx_C p s m args meth c cX12_word "RhymedThenModel" (Cond.code yX12_word cX12_word 3 (some .int)) 3 (some .int)) {z : (Int32 × mm_M)} {x1 : Int32} {M : mm_M} (hf : f_X12_word_92 x1 M = some z) {H : Heap} {locs : List Loc} (hw : wd_in rf_T D cy z0 ad u M X s H locs) {ls : Array Slot} (hl : lv_has ls 3 [(0, .ref (ad 0)), (1, .int x1)]) : W p l e { frames := 2, cells := 0, slots := 0, locals := 45 } s m args below meth c H locs 0 0 (MQ below (cq_i rf_T D cy z0 ad u X z.1 z.2) args s 0 0 (fun q => z0 ≤ q)) (F0 m 92 ls []) := by
  have hx := hC.1
  have hb := hC.2.1
  unfold f_X12_word_92 at hf
  refine lv_iload_n hx hb dX12_word_92 rfl (lv_at hl 1 rfl) ?_
  refine lv_if_eq (tgt := 102) hx hb dX12_word_93 (by decide) (fun c12 => ?_) (fun c12 => ?_)
  · rw [if_pos c12] at hf
    exact k_X12_word_102 hC hf hw (lv_sub hl [0] rfl)
  · rw [if_neg c12] at hf
    refine lv_iload_n hx hb dX12_word_96 rfl (lv_at hl 1 rfl) ?_
    refine lv_bipush (v := 8) hx hb dX12_word_97 (by decide) ?_
    refine lv_icmp_le (tgt := 109) hx hb dX12_word_99 (by decide) (fun c13 => ?_) (fun c13 => ?_)
    · rw [if_pos c13] at hf
      refine lv_aload_n hx hb dX12_word_109 rfl (lv_at hl 0 rfl) ?_
      refine rg_p hC hw 0 (Nat.le_of_ble_eq_true rfl) rfl fd_X12_10 wf_X12_81 (q := 5) rfl dX12_word_110 ?_
      refine lv_aload_n hx hb dX12_word_113 rfl (lv_at hl 0 rfl) ?_
      refine rg_i hC hw 0 (Nat.le_of_ble_eq_true rfl) rfl fd_X12_8 wf_X12_75 dX12_word_114 ?_
      refine lv_iload_n hx hb dX12_word_117 rfl (lv_at hl 1 rfl) ?_
      obtain ⟨h14, hf⟩ := ck_e hf
      obtain ⟨M15, eM15, hf⟩ := sq_e hf
      refine rs_i hC hw 5 (Nat.le_of_ble_eq_true rfl) rfl h14 dX12_word_118 eM15 (fun H locs hw => ?_)
      refine lv_aload_n hx hb dX12_word_119 rfl (lv_at hl 0 rfl) ?_
      refine lv_dup hx hb dX12_word_120 rfl ?_
      refine rg_i hC hw 0 (Nat.le_of_ble_eq_true rfl) rfl fd_X12_8 wf_X12_75 dX12_word_121 ?_
      refine lv_iconst (v := 1) hx hb dX12_word_124 (by decide) ?_
      refine lv_iadd hx hb dX12_word_125 ?_
      obtain ⟨M16, eM16, hf⟩ := sq_e hf
      refine rp_i hC hw 0 (Nat.le_of_ble_eq_true rfl) rfl fd_X12_8 wf_X12_75 fp_X12_8 rfl rfl dX12_word_126 eM16 (fun H locs hw => ?_)
      refine lv_aload_n hx hb dX12_word_129 rfl (lv_at hl 0 rfl) ?_
      refine rg_i hC hw 0 (Nat.le_of_ble_eq_true rfl) rfl fd_X12_8 wf_X12_75 dX12_word_130 ?_
      refine lv_iconst (v := 1) hx hb dX12_word_133 (by decide) ?_
      refine lv_isub hx hb dX12_word_134 ?_
      have hz := Option.some.inj hf
      subst hz
      exact rtc_i hC hw dX12_word_135
    · rw [if_neg c13] at hf
      exact k_X12_word_102 hC hf hw (lv_sub hl [0] rfl)
set_option maxRecDepth 100000 in
set_option maxHeartbeats 4000000 in
theorem k_X12_word_42 {p : Program} {l : Launch} {e : Env} {s : State} {m : MethodId} {args : Array Value} {below : List Frame} {meth : Method} {c : Code} {D : va_G} {cy : Nat → ClassId} {z0 : Nat} {ad : Nat → Nat} {X : va_W} {u : Nat × Nat} (hC : cx_C p s m args meth c cX12_word "RhymedThenModel" (Cond.code yX12_word cX12_word 3 (some .int)) 3 (some .int)) {z : (Int32 × mm_M)} {x1 : Int32} {M : mm_M} {q42 : Int32 → mm_M → Option (Int32 × mm_M)} (hq42 : ∀ (x1 : Int32) (M : mm_M) (H : Heap) (locs : List Loc) (ls : Array Slot), q42 x1 M = some z → wd_in rf_T D cy z0 ad u M X s H locs → lv_has ls 3 [(0, .ref (ad 0)), (1, .int x1)] → W p l e { frames := 2, cells := 0, slots := 0, locals := 45 } s m args below meth c H locs 0 0 (MQ below (cq_i rf_T D cy z0 ad u X z.1 z.2) args s 0 0 (fun q => z0 ≤ q)) (F0 m 42 ls [])) (hf : f_X12_word_42 q42 x1 M = some z) {H : Heap} {locs : List Loc} (hw : wd_in rf_T D cy z0 ad u M X s H locs) {ls : Array Slot} (hl : lv_has ls 3 [(0, .ref (ad 0)), (1, .int x1)]) : W p l e { frames := 2, cells := 0, slots := 0, locals := 45 } s m args below meth c H locs 0 0 (MQ below (cq_i rf_T D cy z0 ad u X z.1 z.2) args s 0 0 (fun q => z0 ≤ q)) (F0 m 42 ls []) := by
  have hx := hC.1
  have hb := hC.2.1
  unfold f_X12_word_42 at hf
  refine lv_aload_n hx hb dX12_word_42 rfl (lv_at hl 0 rfl) ?_
  refine rg_i hC hw 0 (Nat.le_of_ble_eq_true rfl) rfl fd_X12_5 wf_X12_33 dX12_word_43 ?_
  refine lv_aload_n hx hb dX12_word_46 rfl (lv_at hl 0 rfl) ?_
  refine rg_i hC hw 0 (Nat.le_of_ble_eq_true rfl) rfl fd_X12_6 wf_X12_36 dX12_word_47 ?_
  refine lv_icmp_ge (tgt := 92) hx hb dX12_word_50 (by decide) (fun c7 => ?_) (fun c7 => ?_)
  · rw [if_pos c7] at hf
    exact k_X12_word_92 hC hf hw (lv_sub hl [0, 1] rfl)
  · rw [if_neg c7] at hf
    refine lv_aload_n hx hb dX12_word_53 rfl (lv_at hl 0 rfl) ?_
    obtain ⟨z8, ez8, hf⟩ := bd_e hf
    refine clc_Vi hC hw (c_X12_sound ez8) hd_X12_sound cw_X12_47 (Nat.le_of_ble_eq_true rfl) rfl rfl (rest := []) hl.1 rfl (Nat.le_of_ble_eq_true rfl) ⟨Nat.le_of_ble_eq_true rfl, Nat.le_of_ble_eq_true rfl⟩ ⟨Nat.zero_le _, Nat.zero_le _⟩ rfl dX12_word_54 (fun H locs hw => ?_)
    refine lv_istore_n (lv' := [(2, .int z8.1), (0, .ref (ad 0)), (1, .int x1)]) hx hb dX12_word_57 rfl hl (by decide) rfl (fun ls hl => ?_)
    refine lv_iload_n hx hb dX12_word_58 rfl (lv_at hl 0 rfl) ?_
    refine lv_if_ge (tgt := 69) hx hb dX12_word_59 (by decide) (fun c9 => ?_) (fun c9 => ?_)
    · rw [if_pos c9] at hf
      refine lv_aload_n hx hb dX12_word_69 rfl (lv_at hl 1 rfl) ?_
      refine rg_p hC hw 0 (Nat.le_of_ble_eq_true rfl) rfl fd_X12_9 wf_X12_78 (q := 4) rfl dX12_word_70 ?_
      refine lv_bipush (v := 8) hx hb dX12_word_73 (by decide) ?_
      refine lv_aload_n hx hb dX12_word_75 rfl (lv_at hl 1 rfl) ?_
      refine rg_i hC hw 0 (Nat.le_of_ble_eq_true rfl) rfl fd_X12_8 wf_X12_75 dX12_word_76 ?_
      refine lv_imul hx hb dX12_word_79 ?_
      refine lv_aload_n hx hb dX12_word_80 rfl (lv_at hl 1 rfl) ?_
      refine rg_i hC hw 0 (Nat.le_of_ble_eq_true rfl) rfl fd_X12_5 wf_X12_33 dX12_word_81 ?_
      refine lv_iadd hx hb dX12_word_84 ?_
      refine lv_iconst (v := 1) hx hb dX12_word_85 (by decide) ?_
      refine lv_isub hx hb dX12_word_86 ?_
      refine lv_iload_n hx hb dX12_word_87 rfl (lv_at hl 0 rfl) ?_
      obtain ⟨h10, hf⟩ := ck_e hf
      obtain ⟨M11, eM11, hf⟩ := sq_e hf
      refine rs_i hC hw 4 (Nat.le_of_ble_eq_true rfl) rfl h10 dX12_word_88 eM11 (fun H locs hw => ?_)
      refine lv_goto (tgt := 42) hx hb dX12_word_89 (by decide) ?_
      exact hq42 _ _ _ _ _ hf hw (lv_sub hl [1, 2] rfl)
    · rw [if_neg c9] at hf
      exact k_X12_word_62 hC hf hw (lv_sub hl [1] rfl)
set_option maxRecDepth 100000 in
set_option maxHeartbeats 4000000 in
theorem k_X12_word_42l {p : Program} {l : Launch} {e : Env} {s : State} {m : MethodId} {args : Array Value} {below : List Frame} {meth : Method} {c : Code} {D : va_G} {cy : Nat → ClassId} {z0 : Nat} {ad : Nat → Nat} {X : va_W} {u : Nat × Nat} (hC : cx_C p s m args meth c cX12_word "RhymedThenModel" (Cond.code yX12_word cX12_word 3 (some .int)) 3 (some .int)) {z : (Int32 × mm_M)} : ∀ (n : Nat) (x1 : Int32) (M : mm_M) (H : Heap) (locs : List Loc) (ls : Array Slot), f_X12_word_42l n x1 M = some z → wd_in rf_T D cy z0 ad u M X s H locs → lv_has ls 3 [(0, .ref (ad 0)), (1, .int x1)] → W p l e { frames := 2, cells := 0, slots := 0, locals := 45 } s m args below meth c H locs 0 0 (MQ below (cq_i rf_T D cy z0 ad u X z.1 z.2) args s 0 0 (fun q => z0 ≤ q)) (F0 m 42 ls []) := by
  intro n
  induction n with
  | zero => intro x1 M H locs ls hf; exact absurd hf (by simp [f_X12_word_42l])
  | succ n ih => intro x1 M H locs ls hf hw hl; exact k_X12_word_42 hC ih hf hw hl
set_option maxRecDepth 100000 in
set_option maxHeartbeats 4000000 in
theorem k_X12_word {p : Program} {l : Launch} {e : Env} {s : State} {m : MethodId} {args : Array Value} {below : List Frame} {meth : Method} {c : Code} {D : va_G} {cy : Nat → ClassId} {z0 : Nat} {ad : Nat → Nat} {X : va_W} {u : Nat × Nat} (hC : cx_C p s m args meth c cX12_word "RhymedThenModel" (Cond.code yX12_word cX12_word 3 (some .int)) 3 (some .int)) {z : (Int32 × mm_M)} {M : mm_M} (hf : f_X12_word M = some z) {H : Heap} {locs : List Loc} (hw : wd_in rf_T D cy z0 ad u M X s H locs) {ls : Array Slot} (hl : lv_has ls 3 [(0, .ref (ad 0))]) : W p l e { frames := 2, cells := 0, slots := 0, locals := 45 } s m args below meth c H locs 0 0 (MQ below (cq_i rf_T D cy z0 ad u X z.1 z.2) args s 0 0 (fun q => z0 ≤ q)) (F0 m 0 ls []) := by
  have hx := hC.1
  have hb := hC.2.1
  unfold f_X12_word at hf
  refine lv_aload_n hx hb dX12_word_0 rfl (lv_at hl 0 rfl) ?_
  refine lv_iconst (v := 0) hx hb dX12_word_1 (by decide) ?_
  obtain ⟨M1, eM1, hf⟩ := sq_e hf
  refine rp_i hC hw 0 (Nat.le_of_ble_eq_true rfl) rfl fd_X12_0 wf_X12_1 fp_X12_0 rfl rfl dX12_word_2 eM1 (fun H locs hw => ?_)
  refine lv_aload_n hx hb dX12_word_5 rfl (lv_at hl 0 rfl) ?_
  refine rg_i hC hw 0 (Nat.le_of_ble_eq_true rfl) rfl fd_X12_4 wf_X12_22 dX12_word_6 ?_
  obtain ⟨y2, ey2, hf⟩ := sq_e hf
  refine lt_i ey2 ?_
  refine lv_istore_n (lv' := [(1, .int y2), (0, .ref (ad 0))]) hx hb dX12_word_9 rfl hl (by decide) rfl (fun ls hl => ?_)
  refine lv_aload_n hx hb dX12_word_10 rfl (lv_at hl 1 rfl) ?_
  refine lv_iconst (v := 0) hx hb dX12_word_11 (by decide) ?_
  obtain ⟨M3, eM3, hf⟩ := sq_e hf
  refine rp_i hC hw 0 (Nat.le_of_ble_eq_true rfl) rfl fd_X12_4 wf_X12_22 fp_X12_4 rfl rfl dX12_word_12 eM3 (fun H locs hw => ?_)
  refine lv_aload_n hx hb dX12_word_15 rfl (lv_at hl 1 rfl) ?_
  refine lv_iconst (v := 0) hx hb dX12_word_16 (by decide) ?_
  obtain ⟨M4, eM4, hf⟩ := sq_e hf
  refine rp_i hC hw 0 (Nat.le_of_ble_eq_true rfl) rfl fd_X12_5 wf_X12_33 fp_X12_5 rfl rfl dX12_word_17 eM4 (fun H locs hw => ?_)
  refine lv_aload_n hx hb dX12_word_20 rfl (lv_at hl 1 rfl) ?_
  refine lv_iload_n hx hb dX12_word_21 rfl (lv_at hl 0 rfl) ?_
  refine lv_bipush (v := 8) hx hb dX12_word_22 (by decide) ?_
  refine mx_min hC (rest := [.ref (ad 0)]) wm_X12_69 hl.1 ⟨Nat.le_of_ble_eq_true rfl, Nat.le_of_ble_eq_true rfl⟩ ⟨Nat.zero_le _, Nat.zero_le _⟩ dX12_word_24 ?_
  obtain ⟨M5, eM5, hf⟩ := sq_e hf
  refine rp_i hC hw 0 (Nat.le_of_ble_eq_true rfl) rfl fd_X12_6 wf_X12_36 fp_X12_6 rfl rfl dX12_word_27 eM5 (fun H locs hw => ?_)
  refine lv_aload_n hx hb dX12_word_30 rfl (lv_at hl 1 rfl) ?_
  refine rg_i hC hw 0 (Nat.le_of_ble_eq_true rfl) rfl fd_X12_8 wf_X12_75 dX12_word_31 ?_
  refine lv_bipush (v := 20) hx hb dX12_word_34 (by decide) ?_
  refine lv_icmp_ne (tgt := 42) hx hb dX12_word_36 (by decide) (fun c6 => ?_) (fun c6 => ?_)
  · rw [if_neg c6] at hf
    exact k_X12_word_42l hC fu_ _ _ _ _ _ hf hw (lv_sub hl [1, 0] rfl)
  · rw [if_pos c6] at hf
    refine lv_bipush (v := (-100)) hx hb dX12_word_39 (by decide) ?_
    have hz := Option.some.inj hf
    subst hz
    exact rtc_i hC hw dX12_word_41
set_option maxRecDepth 100000 in
theorem c_X12_word {l : Launch} {D : va_G} {cy : Nat → ClassId} {z0 : Nat} {ad : Nat → Nat} {u : Nat × Nat} {X : va_W} {z : (Int32 × mm_M)} {M : mm_M} (hf : f_X12_word M = some z) : ct_i rf_T l yX12_word (Cond.code yX12_word cX12_word 3 (some .int)) 2 45 D cy z0 ad u M X [.ref (ad 0)] z.1 z.2 := by
  refine bgc_i (by decide) (fun p e s m below meth c hC hw => ?_)
  refine en_t (Nat.le_of_ble_eq_true rfl) (fun ls hl => ?_)
  have hl : lv_has ls 3 [(0, .ref (ad 0))] := hl
  exact k_X12_word hC hf hw hl
set_option maxRecDepth 100000 in
set_option maxHeartbeats 4000000 in
theorem k_X12_readsLaw_50 {p : Program} {l : Launch} {e : Env} {s : State} {m : MethodId} {args : Array Value} {below : List Frame} {meth : Method} {c : Code} {D : va_G} {cy : Nat → ClassId} {z0 : Nat} {ad : Nat → Nat} {X : va_W} {u : Nat × Nat} (hC : cx_C p s m args meth c cX12_readsLaw "RhymedThenModel" (Cond.code yX12_readsLaw cX12_readsLaw 3 (some .boolean)) 3 (some .boolean)) {z : (Int32 × mm_M)} {x1 : Int32} {t1 : Int32} {t2 : Int32} {M : mm_M} (hf : f_X12_readsLaw_50 x1 t1 t2 M = some z) {H : Heap} {locs : List Loc} (hw : wd_in rf_T D cy z0 ad u M X s H locs) {ls : Array Slot} (hl : lv_has ls 3 [(0, .ref (ad 0)), (1, .int x1)]) : W p l e { frames := 4, cells := 0, slots := 0, locals := 87 } s m args below meth c H locs 0 0 (MQ below (cq_i rf_T D cy z0 ad u X z.1 z.2) args s 0 0 (fun q => z0 ≤ q)) (F0 m 50 ls [.int t2, .int t1, .ref (ad 7)]) := by
  have hx := hC.1
  have hb := hC.2.1
  unfold f_X12_readsLaw_50 at hf
  obtain ⟨h10, hf⟩ := ck_e hf
  obtain ⟨M11, eM11, hf⟩ := sq_e hf
  refine rs_i hC hw 7 (Nat.le_of_ble_eq_true rfl) rfl h10 dX12_readsLaw_50 eM11 (fun H locs hw => ?_)
  refine lv_aload_n hx hb dX12_readsLaw_51 rfl (lv_at hl 0 rfl) ?_
  refine rg_p hC hw 0 (Nat.le_of_ble_eq_true rfl) rfl fd_X12_14 wf_X12_90 (q := 8) rfl dX12_readsLaw_52 ?_
  refine lv_iload_n hx hb dX12_readsLaw_55 rfl (lv_at hl 1 rfl) ?_
  refine lv_bipush (v := 23) hx hb dX12_readsLaw_56 (by decide) ?_
  obtain ⟨h12, hf⟩ := ck_e hf
  obtain ⟨M13, eM13, hf⟩ := sq_e hf
  refine rs_i hC hw 8 (Nat.le_of_ble_eq_true rfl) rfl h12 dX12_readsLaw_58 eM13 (fun H locs hw => ?_)
  refine lv_aload_n hx hb dX12_readsLaw_59 rfl (lv_at hl 0 rfl) ?_
  refine rg_p hC hw 0 (Nat.le_of_ble_eq_true rfl) rfl fd_X12_15 wf_X12_93 (q := 9) rfl dX12_readsLaw_60 ?_
  refine lv_iload_n hx hb dX12_readsLaw_63 rfl (lv_at hl 1 rfl) ?_
  refine lv_bipush (v := 23) hx hb dX12_readsLaw_64 (by decide) ?_
  obtain ⟨h14, hf⟩ := ck_e hf
  obtain ⟨M15, eM15, hf⟩ := sq_e hf
  refine rs_i hC hw 9 (Nat.le_of_ble_eq_true rfl) rfl h14 dX12_readsLaw_66 eM15 (fun H locs hw => ?_)
  refine lv_aload_n hx hb dX12_readsLaw_67 rfl (lv_at hl 0 rfl) ?_
  refine lv_bipush (v := 47) hx hb dX12_readsLaw_68 (by decide) ?_
  obtain ⟨z16, ez16, hf⟩ := bd_e hf
  refine clc_Vi hC hw (c_X12_comes ez16) hd_X12_comes cw_X12_58 (Nat.le_of_ble_eq_true rfl) rfl rfl (rest := []) hl.1 rfl (Nat.le_of_ble_eq_true rfl) ⟨Nat.le_of_ble_eq_true rfl, Nat.le_of_ble_eq_true rfl⟩ ⟨Nat.zero_le _, Nat.zero_le _⟩ rfl dX12_readsLaw_70 (fun H locs hw => ?_)
  refine lv_if_ne (tgt := 78) hx hb dX12_readsLaw_73 (by decide) (fun c17 => ?_) (fun c17 => ?_)
  · rw [if_neg c17] at hf
    refine lv_aload_n hx hb dX12_readsLaw_78 rfl (lv_at hl 0 rfl) ?_
    refine rg_p hC hw 0 (Nat.le_of_ble_eq_true rfl) rfl fd_X12_14 wf_X12_90 (q := 8) rfl dX12_readsLaw_79 ?_
    refine lv_iload_n hx hb dX12_readsLaw_82 rfl (lv_at hl 1 rfl) ?_
    refine lv_aload_n hx hb dX12_readsLaw_83 rfl (lv_at hl 0 rfl) ?_
    obtain ⟨z18, ez18, hf⟩ := bd_e hf
    refine clc_Vi hC hw (c_X12_beside ez18) hd_X12_beside cw_X12_96 (Nat.le_of_ble_eq_true rfl) rfl rfl (rest := [.int x1, .ref (ad 8)]) hl.1 rfl (Nat.le_of_ble_eq_true rfl) ⟨Nat.le_of_ble_eq_true rfl, Nat.le_of_ble_eq_true rfl⟩ ⟨Nat.zero_le _, Nat.zero_le _⟩ rfl dX12_readsLaw_84 (fun H locs hw => ?_)
    obtain ⟨h19, hf⟩ := ck_e hf
    obtain ⟨M20, eM20, hf⟩ := sq_e hf
    refine rs_i hC hw 8 (Nat.le_of_ble_eq_true rfl) rfl h19 dX12_readsLaw_87 eM20 (fun H locs hw => ?_)
    refine lv_aload_n hx hb dX12_readsLaw_88 rfl (lv_at hl 0 rfl) ?_
    refine lv_bipush (v := 95) hx hb dX12_readsLaw_89 (by decide) ?_
    obtain ⟨z21, ez21, hf⟩ := bd_e hf
    refine clc_Vi hC hw (c_X12_comes ez21) hd_X12_comes cw_X12_58 (Nat.le_of_ble_eq_true rfl) rfl rfl (rest := []) hl.1 rfl (Nat.le_of_ble_eq_true rfl) ⟨Nat.le_of_ble_eq_true rfl, Nat.le_of_ble_eq_true rfl⟩ ⟨Nat.zero_le _, Nat.zero_le _⟩ rfl dX12_readsLaw_91 (fun H locs hw => ?_)
    refine lv_if_ne (tgt := 99) hx hb dX12_readsLaw_94 (by decide) (fun c22 => ?_) (fun c22 => ?_)
    · rw [if_neg c22] at hf
      refine lv_aload_n hx hb dX12_readsLaw_99 rfl (lv_at hl 0 rfl) ?_
      refine rg_p hC hw 0 (Nat.le_of_ble_eq_true rfl) rfl fd_X12_15 wf_X12_93 (q := 9) rfl dX12_readsLaw_100 ?_
      refine lv_iload_n hx hb dX12_readsLaw_103 rfl (lv_at hl 1 rfl) ?_
      refine lv_aload_n hx hb dX12_readsLaw_104 rfl (lv_at hl 0 rfl) ?_
      obtain ⟨z23, ez23, hf⟩ := bd_e hf
      refine clc_Vi hC hw (c_X12_beside ez23) hd_X12_beside cw_X12_96 (Nat.le_of_ble_eq_true rfl) rfl rfl (rest := [.int x1, .ref (ad 9)]) hl.1 rfl (Nat.le_of_ble_eq_true rfl) ⟨Nat.le_of_ble_eq_true rfl, Nat.le_of_ble_eq_true rfl⟩ ⟨Nat.zero_le _, Nat.zero_le _⟩ rfl dX12_readsLaw_105 (fun H locs hw => ?_)
      obtain ⟨h24, hf⟩ := ck_e hf
      obtain ⟨M25, eM25, hf⟩ := sq_e hf
      refine rs_i hC hw 9 (Nat.le_of_ble_eq_true rfl) rfl h24 dX12_readsLaw_108 eM25 (fun H locs hw => ?_)
      refine lv_iconst (v := 1) hx hb dX12_readsLaw_109 (by decide) ?_
      have hz := Option.some.inj hf
      subst hz
      exact rtc_z hC hw (Or.inr rfl) dX12_readsLaw_110
    · rw [if_pos c22] at hf
      refine lv_iconst (v := 0) hx hb dX12_readsLaw_97 (by decide) ?_
      have hz := Option.some.inj hf
      subst hz
      exact rtc_z hC hw (Or.inl rfl) dX12_readsLaw_98
  · rw [if_pos c17] at hf
    refine lv_iconst (v := 1) hx hb dX12_readsLaw_76 (by decide) ?_
    have hz := Option.some.inj hf
    subst hz
    exact rtc_z hC hw (Or.inr rfl) dX12_readsLaw_77
set_option maxRecDepth 100000 in
set_option maxHeartbeats 4000000 in
theorem k_X12_readsLaw {p : Program} {l : Launch} {e : Env} {s : State} {m : MethodId} {args : Array Value} {below : List Frame} {meth : Method} {c : Code} {D : va_G} {cy : Nat → ClassId} {z0 : Nat} {ad : Nat → Nat} {X : va_W} {u : Nat × Nat} (hC : cx_C p s m args meth c cX12_readsLaw "RhymedThenModel" (Cond.code yX12_readsLaw cX12_readsLaw 3 (some .boolean)) 3 (some .boolean)) {z : (Int32 × mm_M)} {x1 : Int32} {M : mm_M} (hf : f_X12_readsLaw x1 M = some z) {H : Heap} {locs : List Loc} (hw : wd_in rf_T D cy z0 ad u M X s H locs) {ls : Array Slot} (hl : lv_has ls 3 [(0, .ref (ad 0)), (1, .int x1)]) : W p l e { frames := 4, cells := 0, slots := 0, locals := 87 } s m args below meth c H locs 0 0 (MQ below (cq_i rf_T D cy z0 ad u X z.1 z.2) args s 0 0 (fun q => z0 ≤ q)) (F0 m 0 ls []) := by
  have hx := hC.1
  have hb := hC.2.1
  unfold f_X12_readsLaw at hf
  refine lv_aload_n hx hb dX12_readsLaw_0 rfl (lv_at hl 0 rfl) ?_
  refine rg_p hC hw 0 (Nat.le_of_ble_eq_true rfl) rfl fd_X12_12 wf_X12_84 (q := 6) rfl dX12_readsLaw_1 ?_
  refine lv_iload_n hx hb dX12_readsLaw_4 rfl (lv_at hl 1 rfl) ?_
  refine lv_aload_n hx hb dX12_readsLaw_5 rfl (lv_at hl 0 rfl) ?_
  obtain ⟨z1, ez1, hf⟩ := bd_e hf
  refine clc_Vi hC hw (c_X12_soundOrClass ez1) hd_X12_soundOrClass cw_X12_55 (Nat.le_of_ble_eq_true rfl) rfl rfl (rest := [.int x1, .ref (ad 6)]) hl.1 rfl (Nat.le_of_ble_eq_true rfl) ⟨Nat.le_of_ble_eq_true rfl, Nat.le_of_ble_eq_true rfl⟩ ⟨Nat.zero_le _, Nat.zero_le _⟩ rfl dX12_readsLaw_6 (fun H locs hw => ?_)
  obtain ⟨h2, hf⟩ := ck_e hf
  obtain ⟨M3, eM3, hf⟩ := sq_e hf
  refine rs_i hC hw 6 (Nat.le_of_ble_eq_true rfl) rfl h2 dX12_readsLaw_9 eM3 (fun H locs hw => ?_)
  refine lv_aload_n hx hb dX12_readsLaw_10 rfl (lv_at hl 0 rfl) ?_
  refine rg_p hC hw 0 (Nat.le_of_ble_eq_true rfl) rfl fd_X12_12 wf_X12_84 (q := 6) rfl dX12_readsLaw_11 ?_
  refine lv_iload_n hx hb dX12_readsLaw_14 rfl (lv_at hl 1 rfl) ?_
  obtain ⟨h4, hf⟩ := ck_e hf
  refine ra_i hC hw 6 (Nat.le_of_ble_eq_true rfl) rfl h4 dX12_readsLaw_15 ?_
  refine lv_if_lt (tgt := 28) hx hb dX12_readsLaw_16 (by decide) (fun c5 => ?_) (fun c5 => ?_)
  · rw [if_pos c5] at hf
    refine lv_iconst (v := 0) hx hb dX12_readsLaw_28 (by decide) ?_
    have hz := Option.some.inj hf
    subst hz
    exact rtc_z hC hw (Or.inl rfl) dX12_readsLaw_29
  · rw [if_neg c5] at hf
    refine lv_aload_n hx hb dX12_readsLaw_19 rfl (lv_at hl 0 rfl) ?_
    refine lv_bipush (v := 62) hx hb dX12_readsLaw_20 (by decide) ?_
    obtain ⟨z6, ez6, hf⟩ := bd_e hf
    refine clc_Vi hC hw (c_X12_comes ez6) hd_X12_comes cw_X12_58 (Nat.le_of_ble_eq_true rfl) rfl rfl (rest := []) hl.1 rfl (Nat.le_of_ble_eq_true rfl) ⟨Nat.le_of_ble_eq_true rfl, Nat.le_of_ble_eq_true rfl⟩ ⟨Nat.zero_le _, Nat.zero_le _⟩ rfl dX12_readsLaw_22 (fun H locs hw => ?_)
    refine lv_if_ne (tgt := 30) hx hb dX12_readsLaw_25 (by decide) (fun c7 => ?_) (fun c7 => ?_)
    · rw [if_neg c7] at hf
      refine lv_aload_n hx hb dX12_readsLaw_30 rfl (lv_at hl 0 rfl) ?_
      obtain ⟨z8, ez8, hf⟩ := bd_e hf
      refine clc_Vi hC hw (c_X12_sound ez8) hd_X12_sound cw_X12_47 (Nat.le_of_ble_eq_true rfl) rfl rfl (rest := []) hl.1 rfl (Nat.le_of_ble_eq_true rfl) ⟨Nat.le_of_ble_eq_true rfl, Nat.le_of_ble_eq_true rfl⟩ ⟨Nat.zero_le _, Nat.zero_le _⟩ rfl dX12_readsLaw_31 (fun H locs hw => ?_)
      refine lv_istore_n (lv' := [(2, .int z8.1), (0, .ref (ad 0)), (1, .int x1)]) hx hb dX12_readsLaw_34 rfl hl (by decide) rfl (fun ls hl => ?_)
      refine lv_aload_n hx hb dX12_readsLaw_35 rfl (lv_at hl 1 rfl) ?_
      refine rg_p hC hw 0 (Nat.le_of_ble_eq_true rfl) rfl fd_X12_13 wf_X12_87 (q := 7) rfl dX12_readsLaw_36 ?_
      refine lv_iload_n hx hb dX12_readsLaw_39 rfl (lv_at hl 2 rfl) ?_
      refine lv_iload_n hx hb dX12_readsLaw_40 rfl (lv_at hl 0 rfl) ?_
      refine lv_if_ge (tgt := 49) hx hb dX12_readsLaw_41 (by decide) (fun c9 => ?_) (fun c9 => ?_)
      · rw [if_pos c9] at hf
        refine lv_iload_n hx hb dX12_readsLaw_49 rfl (lv_at hl 0 rfl) ?_
        exact k_X12_readsLaw_50 hC hf hw (lv_sub hl [1, 2] rfl)
      · rw [if_neg c9] at hf
        refine lv_bipush (v := 24) hx hb dX12_readsLaw_44 (by decide) ?_
        refine lv_goto (tgt := 50) hx hb dX12_readsLaw_46 (by decide) ?_
        exact k_X12_readsLaw_50 hC hf hw (lv_sub hl [1, 2] rfl)
    · rw [if_pos c7] at hf
      refine lv_iconst (v := 0) hx hb dX12_readsLaw_28 (by decide) ?_
      have hz := Option.some.inj hf
      subst hz
      exact rtc_z hC hw (Or.inl rfl) dX12_readsLaw_29
set_option maxRecDepth 100000 in
theorem c_X12_readsLaw {l : Launch} {D : va_G} {cy : Nat → ClassId} {z0 : Nat} {ad : Nat → Nat} {u : Nat × Nat} {X : va_W} {z : (Int32 × mm_M)} {x1 : Int32} {M : mm_M} (hf : f_X12_readsLaw x1 M = some z) : ct_i rf_T l yX12_readsLaw (Cond.code yX12_readsLaw cX12_readsLaw 3 (some .boolean)) 4 87 D cy z0 ad u M X [.ref (ad 0), .int x1] z.1 z.2 := by
  refine bgc_i (by decide) (fun p e s m below meth c hC hw => ?_)
  refine en_t (Nat.le_of_ble_eq_true rfl) (fun ls hl => ?_)
  have hl : lv_has ls 3 [(0, .ref (ad 0)), (1, .int x1)] := hl
  exact k_X12_readsLaw hC hf hw hl
set_option maxRecDepth 100000 in
set_option maxHeartbeats 4000000 in
theorem k_X12_histories_4 {p : Program} {l : Launch} {e : Env} {s : State} {m : MethodId} {args : Array Value} {below : List Frame} {meth : Method} {c : Code} {D : va_G} {cy : Nat → ClassId} {z0 : Nat} {ad : Nat → Nat} {X : va_W} {u : Nat × Nat} (hC : cx_C p s m args meth c cX12_histories "RhymedThenModel" (Cond.code yX12_histories cX12_histories 3 (some .int)) 3 (some .int)) {z : Int32} {x1 : Int32} {x2 : Int32} {M : mm_M} {q4 : Int32 → Int32 → Option Int32} (hq4 : ∀ (x1 : Int32) (x2 : Int32) (H : Heap) (locs : List Loc) (ls : Array Slot), q4 x1 x2 = some z → wd_in rf_T D cy z0 ad u M X s H locs → lv_has ls 3 [(0, .ref (ad 0)), (1, .int x1), (2, .int x2)] → W p l e { frames := 0, cells := 0, slots := 0, locals := 0 } s m args below meth c H locs 0 0 (MQ below (cq_i rf_T D cy z0 ad u X z M) args s 0 0 (fun q => z0 ≤ q)) (F0 m 4 ls [])) (hf : f_X12_histories_4 q4 x1 x2 M = some z) {H : Heap} {locs : List Loc} (hw : wd_in rf_T D cy z0 ad u M X s H locs) {ls : Array Slot} (hl : lv_has ls 3 [(0, .ref (ad 0)), (1, .int x1), (2, .int x2)]) : W p l e { frames := 0, cells := 0, slots := 0, locals := 0 } s m args below meth c H locs 0 0 (MQ below (cq_i rf_T D cy z0 ad u X z M) args s 0 0 (fun q => z0 ≤ q)) (F0 m 4 ls []) := by
  have hx := hC.1
  have hb := hC.2.1
  unfold f_X12_histories_4 at hf
  refine lv_iload_n hx hb dX12_histories_4 rfl (lv_at hl 2 rfl) ?_
  refine lv_aload_n hx hb dX12_histories_5 rfl (lv_at hl 0 rfl) ?_
  refine rg_i hC hw 0 (Nat.le_of_ble_eq_true rfl) rfl fd_X12_11 wf_X12_99 dX12_histories_6 ?_
  refine lv_icmp_ge (tgt := 27) hx hb dX12_histories_9 (by decide) (fun c1 => ?_) (fun c1 => ?_)
  · rw [if_pos c1] at hf
    refine lv_iload_n hx hb dX12_histories_27 rfl (lv_at hl 1 rfl) ?_
    have hz := Option.some.inj hf
    subst hz
    exact rtc_i hC hw dX12_histories_28
  · rw [if_neg c1] at hf
    refine lv_iload_n hx hb dX12_histories_12 rfl (lv_at hl 1 rfl) ?_
    refine lv_aload_n hx hb dX12_histories_13 rfl (lv_at hl 0 rfl) ?_
    refine rg_p hC hw 0 (Nat.le_of_ble_eq_true rfl) rfl fd_X12_18 wf_X12_102 (q := 12) rfl dX12_histories_14 ?_
    refine lv_iload_n hx hb dX12_histories_17 rfl (lv_at hl 2 rfl) ?_
    obtain ⟨h2, hf⟩ := ck_e hf
    refine ra_i hC hw 12 (Nat.le_of_ble_eq_true rfl) rfl h2 dX12_histories_18 ?_
    refine lv_imul hx hb dX12_histories_19 ?_
    obtain ⟨y3, ey3, hf⟩ := sq_e hf
    refine lt_i ey3 ?_
    refine lv_istore_n (lv' := [(1, .int y3), (0, .ref (ad 0)), (2, .int x2)]) hx hb dX12_histories_20 rfl hl (by decide) rfl (fun ls hl => ?_)
    obtain ⟨y4, ey4, hf⟩ := sq_e hf
    refine lv_iinc (v := y4) (lv' := [(2, .int y4), (1, .int y3), (0, .ref (ad 0))]) hx hb dX12_histories_21 hl (k := 2) rfl (by rw [ey4]; rfl) (by decide) rfl (fun ls hl => ?_)
    refine lv_goto (tgt := 4) hx hb dX12_histories_24 (by decide) ?_
    exact hq4 _ _ _ _ _ hf hw (lv_sub hl [2, 1, 0] rfl)
set_option maxRecDepth 100000 in
set_option maxHeartbeats 4000000 in
theorem k_X12_histories_4l {p : Program} {l : Launch} {e : Env} {s : State} {m : MethodId} {args : Array Value} {below : List Frame} {meth : Method} {c : Code} {D : va_G} {cy : Nat → ClassId} {z0 : Nat} {ad : Nat → Nat} {X : va_W} {u : Nat × Nat} (hC : cx_C p s m args meth c cX12_histories "RhymedThenModel" (Cond.code yX12_histories cX12_histories 3 (some .int)) 3 (some .int)) {z : Int32} {M : mm_M} : ∀ (n : Nat) (x1 : Int32) (x2 : Int32) (H : Heap) (locs : List Loc) (ls : Array Slot), f_X12_histories_4l M n x1 x2 = some z → wd_in rf_T D cy z0 ad u M X s H locs → lv_has ls 3 [(0, .ref (ad 0)), (1, .int x1), (2, .int x2)] → W p l e { frames := 0, cells := 0, slots := 0, locals := 0 } s m args below meth c H locs 0 0 (MQ below (cq_i rf_T D cy z0 ad u X z M) args s 0 0 (fun q => z0 ≤ q)) (F0 m 4 ls []) := by
  intro n
  induction n with
  | zero => intro x1 x2 H locs ls hf; exact absurd hf (by simp [f_X12_histories_4l])
  | succ n ih => intro x1 x2 H locs ls hf hw hl; exact k_X12_histories_4 hC ih hf hw hl
set_option maxRecDepth 100000 in
set_option maxHeartbeats 4000000 in
theorem k_X12_histories {p : Program} {l : Launch} {e : Env} {s : State} {m : MethodId} {args : Array Value} {below : List Frame} {meth : Method} {c : Code} {D : va_G} {cy : Nat → ClassId} {z0 : Nat} {ad : Nat → Nat} {X : va_W} {u : Nat × Nat} (hC : cx_C p s m args meth c cX12_histories "RhymedThenModel" (Cond.code yX12_histories cX12_histories 3 (some .int)) 3 (some .int)) {z : Int32} {M : mm_M} (hf : f_X12_histories M = some z) {H : Heap} {locs : List Loc} (hw : wd_in rf_T D cy z0 ad u M X s H locs) {ls : Array Slot} (hl : lv_has ls 3 [(0, .ref (ad 0))]) : W p l e { frames := 0, cells := 0, slots := 0, locals := 0 } s m args below meth c H locs 0 0 (MQ below (cq_i rf_T D cy z0 ad u X z M) args s 0 0 (fun q => z0 ≤ q)) (F0 m 0 ls []) := by
  have hx := hC.1
  have hb := hC.2.1
  unfold f_X12_histories at hf
  refine lv_iconst (v := 1) hx hb dX12_histories_0 (by decide) ?_
  refine lv_istore_n (lv' := [(1, .int 1), (0, .ref (ad 0))]) hx hb dX12_histories_1 rfl hl (by decide) rfl (fun ls hl => ?_)
  refine lv_iconst (v := 0) hx hb dX12_histories_2 (by decide) ?_
  refine lv_istore_n (lv' := [(2, .int 0), (1, .int 1), (0, .ref (ad 0))]) hx hb dX12_histories_3 rfl hl (by decide) rfl (fun ls hl => ?_)
  exact k_X12_histories_4l hC fu_ _ _ _ _ _ hf hw (lv_sub hl [2, 1, 0] rfl)
set_option maxRecDepth 100000 in
theorem c_X12_histories {l : Launch} {D : va_G} {cy : Nat → ClassId} {z0 : Nat} {ad : Nat → Nat} {u : Nat × Nat} {X : va_W} {z : Int32} {M : mm_M} (hf : f_X12_histories M = some z) : ct_i rf_T l yX12_histories (Cond.code yX12_histories cX12_histories 3 (some .int)) 0 0 D cy z0 ad u M X [.ref (ad 0)] z M := by
  refine bgc_i (by decide) (fun p e s m below meth c hC hw => ?_)
  refine en_t (Nat.le_of_ble_eq_true rfl) (fun ls hl => ?_)
  have hl : lv_has ls 3 [(0, .ref (ad 0))] := hl
  exact k_X12_histories hC hf hw hl
set_option maxRecDepth 100000 in
set_option maxHeartbeats 4000000 in
theorem k_X12_law_165 {p : Program} {l : Launch} {e : Env} {s : State} {m : MethodId} {args : Array Value} {below : List Frame} {meth : Method} {c : Code} {D : va_G} {cy : Nat → ClassId} {z0 : Nat} {ad : Nat → Nat} {X : va_W} {u : Nat × Nat} (hC : cx_C p s m args meth c cX12_law "RhymedThenModel" (Cond.code yX12_law cX12_law 7 (some .int)) 7 (some .int)) {z : (Int32 × mm_M)} {x1 : Int32} {x3 : Int32} {x5 : Int32} {x6 : Int32} {M : mm_M} (hf : f_X12_law_165 x1 x3 x5 x6 M = some z) {H : Heap} {locs : List Loc} (hw : wd_in rf_T D cy z0 ad u M X s H locs) {ls : Array Slot} (hl : lv_has ls 7 [(0, .ref (ad 0)), (1, .int x1), (3, .int x3), (5, .int x5), (6, .int x6)]) : W p l e { frames := 5, cells := 0, slots := 0, locals := 109 } s m args below meth c H locs 0 0 (MQ below (cq_i rf_T D cy z0 ad u X z.1 z.2) args s 0 0 (fun q => z0 ≤ q)) (F0 m 165 ls []) := by
  have hx := hC.1
  have hb := hC.2.1
  unfold f_X12_law_165 at hf
  refine lv_iload hx hb dX12_law_165 (lv_at hl 4 rfl) ?_
  refine lv_if_ne (tgt := 177) hx hb dX12_law_167 (by decide) (fun c24 => ?_) (fun c24 => ?_)
  · rw [if_neg c24] at hf
    refine lv_aload_n hx hb dX12_law_177 rfl (lv_at hl 0 rfl) ?_
    refine rg_p hC hw 0 (Nat.le_of_ble_eq_true rfl) rfl fd_X12_16 wf_X12_114 (q := 10) rfl dX12_law_178 ?_
    refine lv_aload_n hx hb dX12_law_181 rfl (lv_at hl 0 rfl) ?_
    refine rg_i hC hw 0 (Nat.le_of_ble_eq_true rfl) rfl fd_X12_11 wf_X12_99 dX12_law_182 ?_
    refine lv_iload_n hx hb dX12_law_185 rfl (lv_at hl 1 rfl) ?_
    obtain ⟨h25, hf⟩ := ck_e hf
    obtain ⟨M26, eM26, hf⟩ := sq_e hf
    refine rs_i hC hw 10 (Nat.le_of_ble_eq_true rfl) rfl h25 dX12_law_186 eM26 (fun H locs hw => ?_)
    refine lv_aload_n hx hb dX12_law_187 rfl (lv_at hl 0 rfl) ?_
    refine rg_p hC hw 0 (Nat.le_of_ble_eq_true rfl) rfl fd_X12_17 wf_X12_117 (q := 11) rfl dX12_law_188 ?_
    refine lv_aload_n hx hb dX12_law_191 rfl (lv_at hl 0 rfl) ?_
    refine rg_i hC hw 0 (Nat.le_of_ble_eq_true rfl) rfl fd_X12_11 wf_X12_99 dX12_law_192 ?_
    refine lv_iload_n hx hb dX12_law_195 rfl (lv_at hl 2 rfl) ?_
    obtain ⟨h27, hf⟩ := ck_e hf
    obtain ⟨M28, eM28, hf⟩ := sq_e hf
    refine rs_i hC hw 11 (Nat.le_of_ble_eq_true rfl) rfl h27 dX12_law_196 eM28 (fun H locs hw => ?_)
    refine lv_aload_n hx hb dX12_law_197 rfl (lv_at hl 0 rfl) ?_
    refine rg_p hC hw 0 (Nat.le_of_ble_eq_true rfl) rfl fd_X12_18 wf_X12_102 (q := 12) rfl dX12_law_198 ?_
    refine lv_aload_n hx hb dX12_law_201 rfl (lv_at hl 0 rfl) ?_
    refine rg_i hC hw 0 (Nat.le_of_ble_eq_true rfl) rfl fd_X12_11 wf_X12_99 dX12_law_202 ?_
    refine lv_iload hx hb dX12_law_205 (lv_at hl 3 rfl) ?_
    obtain ⟨h29, hf⟩ := ck_e hf
    obtain ⟨M30, eM30, hf⟩ := sq_e hf
    refine rs_i hC hw 12 (Nat.le_of_ble_eq_true rfl) rfl h29 dX12_law_207 eM30 (fun H locs hw => ?_)
    refine lv_aload_n hx hb dX12_law_208 rfl (lv_at hl 0 rfl) ?_
    refine lv_dup hx hb dX12_law_209 rfl ?_
    refine rg_i hC hw 0 (Nat.le_of_ble_eq_true rfl) rfl fd_X12_11 wf_X12_99 dX12_law_210 ?_
    refine lv_iconst (v := 1) hx hb dX12_law_213 (by decide) ?_
    refine lv_iadd hx hb dX12_law_214 ?_
    obtain ⟨M31, eM31, hf⟩ := sq_e hf
    refine rp_i hC hw 0 (Nat.le_of_ble_eq_true rfl) rfl fd_X12_11 wf_X12_99 fp_X12_11 rfl rfl dX12_law_215 eM31 (fun H locs hw => ?_)
    refine lv_aload_n hx hb dX12_law_218 rfl (lv_at hl 0 rfl) ?_
    refine rg_i hC hw 0 (Nat.le_of_ble_eq_true rfl) rfl fd_X12_11 wf_X12_99 dX12_law_219 ?_
    refine lv_iconst (v := 1) hx hb dX12_law_222 (by decide) ?_
    refine lv_isub hx hb dX12_law_223 ?_
    have hz := Option.some.inj hf
    subst hz
    exact rtc_i hC hw dX12_law_224
  · rw [if_pos c24] at hf
    refine lv_iconst (v := (-1)) hx hb dX12_law_170 (by decide) ?_
    refine lv_aload_n hx hb dX12_law_171 rfl (lv_at hl 0 rfl) ?_
    refine rg_i hC hw 0 (Nat.le_of_ble_eq_true rfl) rfl fd_X12_5 wf_X12_33 dX12_law_172 ?_
    refine lv_isub hx hb dX12_law_175 ?_
    have hz := Option.some.inj hf
    subst hz
    exact rtc_i hC hw dX12_law_176
set_option maxRecDepth 100000 in
set_option maxHeartbeats 4000000 in
theorem k_X12_law_139 {p : Program} {l : Launch} {e : Env} {s : State} {m : MethodId} {args : Array Value} {below : List Frame} {meth : Method} {c : Code} {D : va_G} {cy : Nat → ClassId} {z0 : Nat} {ad : Nat → Nat} {X : va_W} {u : Nat × Nat} (hC : cx_C p s m args meth c cX12_law "RhymedThenModel" (Cond.code yX12_law cX12_law 7 (some .int)) 7 (some .int)) {z : (Int32 × mm_M)} {x1 : Int32} {x3 : Int32} {x4 : Int32} {x5 : Int32} {t0 : Int32} {M : mm_M} (hf : f_X12_law_139 x1 x3 x4 x5 t0 M = some z) {H : Heap} {locs : List Loc} (hw : wd_in rf_T D cy z0 ad u M X s H locs) {ls : Array Slot} (hl : lv_has ls 7 [(0, .ref (ad 0)), (1, .int x1), (3, .int x3), (4, .int x4), (5, .int x5)]) : W p l e { frames := 5, cells := 0, slots := 0, locals := 109 } s m args below meth c H locs 0 0 (MQ below (cq_i rf_T D cy z0 ad u X z.1 z.2) args s 0 0 (fun q => z0 ≤ q)) (F0 m 139 ls [.int t0]) := by
  have hx := hC.1
  have hb := hC.2.1
  unfold f_X12_law_139 at hf
  refine lv_istore (lv' := [(6, .int t0), (0, .ref (ad 0)), (1, .int x1), (3, .int x3), (4, .int x4), (5, .int x5)]) hx hb dX12_law_139 hl (by decide) rfl (fun ls hl => ?_)
  refine lv_iload hx hb dX12_law_141 (lv_at hl 4 rfl) ?_
  refine lv_bipush (v := 20) hx hb dX12_law_143 (by decide) ?_
  refine lv_icmp_le (tgt := 165) hx hb dX12_law_145 (by decide) (fun c21 => ?_) (fun c21 => ?_)
  · rw [if_pos c21] at hf
    exact k_X12_law_165 hC hf hw (lv_sub hl [1, 2, 3, 5, 0] rfl)
  · rw [if_neg c21] at hf
    refine lv_iload hx hb dX12_law_148 (lv_at hl 0 rfl) ?_
    refine lv_if_ne (tgt := 162) hx hb dX12_law_150 (by decide) (fun c22 => ?_) (fun c22 => ?_)
    · rw [if_neg c22] at hf
      refine lv_bipush (v := (-21)) hx hb dX12_law_162 (by decide) ?_
      have hz := Option.some.inj hf
      subst hz
      exact rtc_i hC hw dX12_law_164
    · rw [if_pos c22] at hf
      refine lv_aload_n hx hb dX12_law_153 rfl (lv_at hl 1 rfl) ?_
      refine rg_i hC hw 0 (Nat.le_of_ble_eq_true rfl) rfl fd_X12_5 wf_X12_33 dX12_law_154 ?_
      refine lv_bipush (v := 20) hx hb dX12_law_157 (by decide) ?_
      refine lv_icmp_lt (tgt := 165) hx hb dX12_law_159 (by decide) (fun c23 => ?_) (fun c23 => ?_)
      · rw [if_pos c23] at hf
        exact k_X12_law_165 hC hf hw (lv_sub hl [1, 2, 3, 5, 0] rfl)
      · rw [if_neg c23] at hf
        refine lv_bipush (v := (-21)) hx hb dX12_law_162 (by decide) ?_
        have hz := Option.some.inj hf
        subst hz
        exact rtc_i hC hw dX12_law_164
set_option maxRecDepth 100000 in
set_option maxHeartbeats 4000000 in
theorem k_X12_law_138 {p : Program} {l : Launch} {e : Env} {s : State} {m : MethodId} {args : Array Value} {below : List Frame} {meth : Method} {c : Code} {D : va_G} {cy : Nat → ClassId} {z0 : Nat} {ad : Nat → Nat} {X : va_W} {u : Nat × Nat} (hC : cx_C p s m args meth c cX12_law "RhymedThenModel" (Cond.code yX12_law cX12_law 7 (some .int)) 7 (some .int)) {z : (Int32 × mm_M)} {x1 : Int32} {x3 : Int32} {x4 : Int32} {x5 : Int32} {M : mm_M} (hf : f_X12_law_138 x1 x3 x4 x5 M = some z) {H : Heap} {locs : List Loc} (hw : wd_in rf_T D cy z0 ad u M X s H locs) {ls : Array Slot} (hl : lv_has ls 7 [(0, .ref (ad 0)), (1, .int x1), (3, .int x3), (4, .int x4), (5, .int x5)]) : W p l e { frames := 5, cells := 0, slots := 0, locals := 109 } s m args below meth c H locs 0 0 (MQ below (cq_i rf_T D cy z0 ad u X z.1 z.2) args s 0 0 (fun q => z0 ≤ q)) (F0 m 138 ls []) := by
  have hx := hC.1
  have hb := hC.2.1
  unfold f_X12_law_138 at hf
  refine lv_iconst (v := 0) hx hb dX12_law_138 (by decide) ?_
  exact k_X12_law_139 hC hf hw (lv_sub hl [0, 1, 2, 3, 4] rfl)
set_option maxRecDepth 100000 in
set_option maxHeartbeats 4000000 in
theorem k_X12_law {p : Program} {l : Launch} {e : Env} {s : State} {m : MethodId} {args : Array Value} {below : List Frame} {meth : Method} {c : Code} {D : va_G} {cy : Nat → ClassId} {z0 : Nat} {ad : Nat → Nat} {X : va_W} {u : Nat × Nat} (hC : cx_C p s m args meth c cX12_law "RhymedThenModel" (Cond.code yX12_law cX12_law 7 (some .int)) 7 (some .int)) {z : (Int32 × mm_M)} {x1 : Int32} {x2 : Int32} {x3 : Int32} {M : mm_M} (hf : f_X12_law x1 x2 x3 M = some z) {H : Heap} {locs : List Loc} (hw : wd_in rf_T D cy z0 ad u M X s H locs) {ls : Array Slot} (hl : lv_has ls 7 [(0, .ref (ad 0)), (1, .int x1), (2, .int x2), (3, .int x3)]) : W p l e { frames := 5, cells := 0, slots := 0, locals := 109 } s m args below meth c H locs 0 0 (MQ below (cq_i rf_T D cy z0 ad u X z.1 z.2) args s 0 0 (fun q => z0 ≤ q)) (F0 m 0 ls []) := by
  have hx := hC.1
  have hb := hC.2.1
  unfold f_X12_law at hf
  refine lv_aload_n hx hb dX12_law_0 rfl (lv_at hl 0 rfl) ?_
  refine lv_iconst (v := 0) hx hb dX12_law_1 (by decide) ?_
  obtain ⟨M1, eM1, hf⟩ := sq_e hf
  refine rp_i hC hw 0 (Nat.le_of_ble_eq_true rfl) rfl fd_X12_0 wf_X12_1 fp_X12_0 rfl rfl dX12_law_2 eM1 (fun H locs hw => ?_)
  refine lv_aload_n hx hb dX12_law_5 rfl (lv_at hl 0 rfl) ?_
  refine rg_i hC hw 0 (Nat.le_of_ble_eq_true rfl) rfl fd_X12_4 wf_X12_22 dX12_law_6 ?_
  obtain ⟨y2, ey2, hf⟩ := sq_e hf
  refine lt_i ey2 ?_
  refine lv_istore (lv' := [(4, .int y2), (0, .ref (ad 0)), (1, .int x1), (2, .int x2), (3, .int x3)]) hx hb dX12_law_9 hl (by decide) rfl (fun ls hl => ?_)
  refine lv_aload_n hx hb dX12_law_11 rfl (lv_at hl 1 rfl) ?_
  refine lv_iconst (v := 0) hx hb dX12_law_12 (by decide) ?_
  obtain ⟨M3, eM3, hf⟩ := sq_e hf
  refine rp_i hC hw 0 (Nat.le_of_ble_eq_true rfl) rfl fd_X12_4 wf_X12_22 fp_X12_4 rfl rfl dX12_law_13 eM3 (fun H locs hw => ?_)
  refine lv_aload_n hx hb dX12_law_16 rfl (lv_at hl 1 rfl) ?_
  refine lv_iconst (v := 0) hx hb dX12_law_17 (by decide) ?_
  obtain ⟨M4, eM4, hf⟩ := sq_e hf
  refine rp_i hC hw 0 (Nat.le_of_ble_eq_true rfl) rfl fd_X12_5 wf_X12_33 fp_X12_5 rfl rfl dX12_law_18 eM4 (fun H locs hw => ?_)
  refine lv_aload_n hx hb dX12_law_21 rfl (lv_at hl 1 rfl) ?_
  refine lv_iload hx hb dX12_law_22 (lv_at hl 0 rfl) ?_
  refine lv_bipush (v := 20) hx hb dX12_law_24 (by decide) ?_
  refine mx_min hC (rest := [.ref (ad 0)]) wm_X12_69 hl.1 ⟨Nat.le_of_ble_eq_true rfl, Nat.le_of_ble_eq_true rfl⟩ ⟨Nat.zero_le _, Nat.zero_le _⟩ dX12_law_26 ?_
  obtain ⟨M5, eM5, hf⟩ := sq_e hf
  refine rp_i hC hw 0 (Nat.le_of_ble_eq_true rfl) rfl fd_X12_6 wf_X12_36 fp_X12_6 rfl rfl dX12_law_29 eM5 (fun H locs hw => ?_)
  refine lv_aload_n hx hb dX12_law_32 rfl (lv_at hl 1 rfl) ?_
  refine rg_i hC hw 0 (Nat.le_of_ble_eq_true rfl) rfl fd_X12_11 wf_X12_99 dX12_law_33 ?_
  refine lv_bipush (v := 6) hx hb dX12_law_36 (by decide) ?_
  refine lv_icmp_ne (tgt := 44) hx hb dX12_law_38 (by decide) (fun c6 => ?_) (fun c6 => ?_)
  · rw [if_neg c6] at hf
    refine lv_iload_n hx hb dX12_law_44 rfl (lv_at hl 2 rfl) ?_
    refine lv_i2l hx hb dX12_law_45 rfl ?_
    refine lv_lconst (v := 0) hx hb dX12_law_46 (by decide) ?_
    refine lv_ldc2 (v := 400) hx hb hC.2.2.2.1 (hC.t wk_X12_105) dX12_law_47 ?_
    obtain ⟨z7, ez7, hf⟩ := sq_e hf
    refine clc_Si hC hw (c_X12_in ez7.symm) hd_X12_in cw_X12_29 (rest := []) hl.1 rfl (Nat.le_of_ble_eq_true rfl) ⟨Nat.le_of_ble_eq_true rfl, Nat.le_of_ble_eq_true rfl⟩ ⟨Nat.zero_le _, Nat.zero_le _⟩ rfl dX12_law_50 (fun H locs hw => ?_)
    refine lv_if_eq (tgt := 84) hx hb dX12_law_53 (by decide) (fun c8 => ?_) (fun c8 => ?_)
    · rw [if_pos c8] at hf
      refine lv_bipush (v := (-101)) hx hb dX12_law_84 (by decide) ?_
      have hz := Option.some.inj hf
      subst hz
      exact rtc_i hC hw dX12_law_86
    · rw [if_neg c8] at hf
      refine lv_iload_n hx hb dX12_law_56 rfl (lv_at hl 3 rfl) ?_
      refine lv_i2l hx hb dX12_law_57 rfl ?_
      refine lv_iload_n hx hb dX12_law_58 rfl (lv_at hl 2 rfl) ?_
      refine lv_i2l hx hb dX12_law_59 rfl ?_
      refine lv_ldc2 (v := 400) hx hb hC.2.2.2.1 (hC.t wk_X12_105) dX12_law_60 ?_
      obtain ⟨z9, ez9, hf⟩ := sq_e hf
      refine clc_Si hC hw (c_X12_in ez9.symm) hd_X12_in cw_X12_29 (rest := []) hl.1 rfl (Nat.le_of_ble_eq_true rfl) ⟨Nat.le_of_ble_eq_true rfl, Nat.le_of_ble_eq_true rfl⟩ ⟨Nat.zero_le _, Nat.zero_le _⟩ rfl dX12_law_63 (fun H locs hw => ?_)
      refine lv_if_eq (tgt := 84) hx hb dX12_law_66 (by decide) (fun c10 => ?_) (fun c10 => ?_)
      · rw [if_pos c10] at hf
        refine lv_bipush (v := (-101)) hx hb dX12_law_84 (by decide) ?_
        have hz := Option.some.inj hf
        subst hz
        exact rtc_i hC hw dX12_law_86
      · rw [if_neg c10] at hf
        refine lv_iload_n hx hb dX12_law_69 rfl (lv_at hl 4 rfl) ?_
        refine lv_iconst (v := 1) hx hb dX12_law_70 (by decide) ?_
        refine lv_icmp_lt (tgt := 84) hx hb dX12_law_71 (by decide) (fun c11 => ?_) (fun c11 => ?_)
        · rw [if_pos c11] at hf
          refine lv_bipush (v := (-101)) hx hb dX12_law_84 (by decide) ?_
          have hz := Option.some.inj hf
          subst hz
          exact rtc_i hC hw dX12_law_86
        · rw [if_neg c11] at hf
          refine lv_iload_n hx hb dX12_law_74 rfl (lv_at hl 3 rfl) ?_
          refine lv_iload_n hx hb dX12_law_75 rfl (lv_at hl 2 rfl) ?_
          refine lv_isub hx hb dX12_law_76 ?_
          refine lv_iload_n hx hb dX12_law_77 rfl (lv_at hl 4 rfl) ?_
          obtain ⟨h12, hf⟩ := ck_e hf
          refine lv_idiv hx hb dX12_law_78 h12 ?_
          refine lv_bipush (v := 8) hx hb dX12_law_79 (by decide) ?_
          refine lv_icmp_lt (tgt := 87) hx hb dX12_law_81 (by decide) (fun c13 => ?_) (fun c13 => ?_)
          · rw [if_pos c13] at hf
            refine lv_iload_n hx hb dX12_law_87 rfl (lv_at hl 3 rfl) ?_
            refine lv_iload_n hx hb dX12_law_88 rfl (lv_at hl 2 rfl) ?_
            refine lv_isub hx hb dX12_law_89 ?_
            refine lv_iload_n hx hb dX12_law_90 rfl (lv_at hl 4 rfl) ?_
            obtain ⟨h14, hf⟩ := ck_e hf
            refine lv_idiv hx hb dX12_law_91 h14 ?_
            refine lv_iconst (v := 1) hx hb dX12_law_92 (by decide) ?_
            refine lv_iadd hx hb dX12_law_93 ?_
            obtain ⟨y15, ey15, hf⟩ := sq_e hf
            refine lt_i ey15 ?_
            refine lv_istore (lv' := [(5, .int y15), (4, .int y2), (0, .ref (ad 0)), (1, .int x1), (2, .int x2), (3, .int x3)]) hx hb dX12_law_94 hl (by decide) rfl (fun ls hl => ?_)
            refine lv_aload_n hx hb dX12_law_96 rfl (lv_at hl 2 rfl) ?_
            obtain ⟨z16, ez16, hf⟩ := bd_e hf
            refine clc_Vi hC hw (c_X12_histories ez16) hd_X12_histories cw_X12_107 (Nat.le_of_ble_eq_true rfl) rfl rfl (rest := []) hl.1 rfl (Nat.le_of_ble_eq_true rfl) ⟨Nat.le_of_ble_eq_true rfl, Nat.le_of_ble_eq_true rfl⟩ ⟨Nat.zero_le _, Nat.zero_le _⟩ rfl dX12_law_97 (fun H locs hw => ?_)
            refine lv_iload hx hb dX12_law_100 (lv_at hl 0 rfl) ?_
            refine lv_imul hx hb dX12_law_102 ?_
            refine lv_sipush (v := 600) hx hb dX12_law_103 (by decide) ?_
            refine lv_icmp_le (tgt := 112) hx hb dX12_law_106 (by decide) (fun c17 => ?_) (fun c17 => ?_)
            · rw [if_pos c17] at hf
              refine lv_aload_n hx hb dX12_law_112 rfl (lv_at hl 2 rfl) ?_
              refine lv_aload_n hx hb dX12_law_113 rfl (lv_at hl 2 rfl) ?_
              refine rg_i hC hw 0 (Nat.le_of_ble_eq_true rfl) rfl fd_X12_11 wf_X12_99 dX12_law_114 ?_
              obtain ⟨z18, ez18, hf⟩ := bd_e hf
              refine clc_Vi hC hw (c_X12_readsLaw ez18) hd_X12_readsLaw cw_X12_110 (Nat.le_of_ble_eq_true rfl) rfl rfl (rest := []) hl.1 rfl (Nat.le_of_ble_eq_true rfl) ⟨Nat.le_of_ble_eq_true rfl, Nat.le_of_ble_eq_true rfl⟩ ⟨Nat.zero_le _, Nat.zero_le _⟩ rfl dX12_law_117 (fun H locs hw => ?_)
              refine lv_if_eq (tgt := 138) hx hb dX12_law_120 (by decide) (fun c19 => ?_) (fun c19 => ?_)
              · rw [if_pos c19] at hf
                exact k_X12_law_138 hC hf hw (lv_sub hl [2, 3, 5, 1, 0] rfl)
              · rw [if_neg c19] at hf
                refine lv_aload_n hx hb dX12_law_123 rfl (lv_at hl 2 rfl) ?_
                refine rg_i hC hw 0 (Nat.le_of_ble_eq_true rfl) rfl fd_X12_5 wf_X12_33 dX12_law_124 ?_
                refine lv_aload_n hx hb dX12_law_127 rfl (lv_at hl 2 rfl) ?_
                refine rg_i hC hw 0 (Nat.le_of_ble_eq_true rfl) rfl fd_X12_6 wf_X12_36 dX12_law_128 ?_
                refine lv_icmp_ne (tgt := 138) hx hb dX12_law_131 (by decide) (fun c20 => ?_) (fun c20 => ?_)
                · rw [if_neg c20] at hf
                  exact k_X12_law_138 hC hf hw (lv_sub hl [2, 3, 5, 1, 0] rfl)
                · rw [if_pos c20] at hf
                  refine lv_iconst (v := 1) hx hb dX12_law_134 (by decide) ?_
                  refine lv_goto (tgt := 139) hx hb dX12_law_135 (by decide) ?_
                  exact k_X12_law_139 hC hf hw (lv_sub hl [2, 3, 5, 1, 0] rfl)
            · rw [if_neg c17] at hf
              refine lv_bipush (v := (-102)) hx hb dX12_law_109 (by decide) ?_
              have hz := Option.some.inj hf
              subst hz
              exact rtc_i hC hw dX12_law_111
          · rw [if_neg c13] at hf
            refine lv_bipush (v := (-101)) hx hb dX12_law_84 (by decide) ?_
            have hz := Option.some.inj hf
            subst hz
            exact rtc_i hC hw dX12_law_86
  · rw [if_pos c6] at hf
    refine lv_bipush (v := (-100)) hx hb dX12_law_41 (by decide) ?_
    have hz := Option.some.inj hf
    subst hz
    exact rtc_i hC hw dX12_law_43
set_option maxRecDepth 100000 in
theorem c_X12_law {l : Launch} {D : va_G} {cy : Nat → ClassId} {z0 : Nat} {ad : Nat → Nat} {u : Nat × Nat} {X : va_W} {z : (Int32 × mm_M)} {x1 : Int32} {x2 : Int32} {x3 : Int32} {M : mm_M} (hf : f_X12_law x1 x2 x3 M = some z) : ct_i rf_T l yX12_law (Cond.code yX12_law cX12_law 7 (some .int)) 5 109 D cy z0 ad u M X [.ref (ad 0), .int x1, .int x2, .int x3] z.1 z.2 := by
  refine bgc_i (by decide) (fun p e s m below meth c hC hw => ?_)
  refine en_t (Nat.le_of_ble_eq_true rfl) (fun ls hl => ?_)
  have hl : lv_has ls 7 [(0, .ref (ad 0)), (1, .int x1), (2, .int x2), (3, .int x3)] := hl
  exact k_X12_law hC hf hw hl
