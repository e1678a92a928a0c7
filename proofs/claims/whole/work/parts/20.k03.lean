set_option maxRecDepth 100000 in
set_option maxHeartbeats 4000000 in
theorem k_X11_blunder_49 {p : Program} {l : Launch} {e : Env} {s : State} {m : MethodId} {args : Array Value} {below : List Frame} {meth : Method} {c : Code} {D : va_G} {cy : Nat → ClassId} {z0 : Nat} {ad : Nat → Nat} {X : va_W} {u : Nat × Nat} (hC : cx_C p s m args meth c cX11_blunder "RhymedThen" (Cond.code yX11_blunder cX11_blunder 4 (some .int)) 4 (some .int)) {z : (Int32 × mm_M)} {c0 : Nat} {x1 : Int32} {x2 : Int32} {M : mm_M} (hc0 : c0 ≤ M.2.2) {q11 : Int32 → Int32 → mm_M → Option (Int32 × mm_M)} (hq11 : ∀ (x1 : Int32) (x2 : Int32) (M : mm_M) (u : Nat × Nat) (H : Heap) (locs : List Loc) (ls : Array Slot), c0 ≤ M.2.2 → q11 x1 x2 M = some z → wd_in cx_T D cy z0 ad u M X s H locs → lv_has ls 4 [(0, .ref (ad 0)), (1, .int x1), (2, .int x2)] → W p l e { frames := 8, cells := 2 * (z.2.2.2 - c0), slots := 52 * (z.2.2.2 - c0), locals := 238 } s m args below meth c H locs (2 * (M.2.2 - c0)) (52 * (M.2.2 - c0)) (MQ below (aq_i cx_T D cy z0 ad X z.1 z.2) args s (2 * (z.2.2.2 - c0)) (52 * (z.2.2.2 - c0)) (fun q => z0 ≤ q)) (F0 m 11 ls [])) (hm11 : ∀ (x1 : Int32) (x2 : Int32) (M : mm_M), q11 x1 x2 M = some z → M.2.2 ≤ z.2.2.2) (hf : f_X11_blunder_49 q11 x1 x2 M = some z) {H : Heap} {locs : List Loc} (hw : wd_in cx_T D cy z0 ad u M X s H locs) {ls : Array Slot} (hl : lv_has ls 4 [(0, .ref (ad 0)), (1, .int x1), (2, .int x2)]) : W p l e { frames := 8, cells := 2 * (z.2.2.2 - c0), slots := 52 * (z.2.2.2 - c0), locals := 238 } s m args below meth c H locs (2 * (M.2.2 - c0)) (52 * (M.2.2 - c0)) (MQ below (aq_i cx_T D cy z0 ad X z.1 z.2) args s (2 * (z.2.2.2 - c0)) (52 * (z.2.2.2 - c0)) (fun q => z0 ≤ q)) (F0 m 49 ls []) := by
  have hx := hC.1
  have hb := hC.2.1
  have hmz : M.2.2 ≤ z.2.2.2 := mo_X11_blunder_49 hm11 hf
  unfold f_X11_blunder_49 at hf
  obtain ⟨y8, ey8, hf⟩ := sq_e hf
  refine lv_iinc (v := y8) (lv' := [(2, .int y8), (0, .ref (ad 0)), (1, .int x1)]) hx hb dX11_blunder_49 hl (k := 2) rfl (by rw [ey8]; rfl) (by decide) rfl (fun ls hl => ?_)
  refine lv_goto (tgt := 11) hx hb dX11_blunder_52 (by decide) ?_
  refine W.widen (k := 2 * (M.2.2 - c0)) (n := 52 * (M.2.2 - c0)) (by omega) (by omega) ?_
  exact hq11 _ _ _ _ _ _ _ (by omega) hf hw (lv_sub hl [1, 2, 0] rfl)
set_option maxRecDepth 100000 in
set_option maxHeartbeats 4000000 in
theorem k_X11_blunder_11 {p : Program} {l : Launch} {e : Env} {s : State} {m : MethodId} {args : Array Value} {below : List Frame} {meth : Method} {c : Code} {D : va_G} {cy : Nat → ClassId} {z0 : Nat} {ad : Nat → Nat} {X : va_W} {u : Nat × Nat} (hC : cx_C p s m args meth c cX11_blunder "RhymedThen" (Cond.code yX11_blunder cX11_blunder 4 (some .int)) 4 (some .int)) {z : (Int32 × mm_M)} {c0 : Nat} {x1 : Int32} {x2 : Int32} {M : mm_M} (hc0 : c0 ≤ M.2.2) {q11 : Int32 → Int32 → mm_M → Option (Int32 × mm_M)} (hq11 : ∀ (x1 : Int32) (x2 : Int32) (M : mm_M) (u : Nat × Nat) (H : Heap) (locs : List Loc) (ls : Array Slot), c0 ≤ M.2.2 → q11 x1 x2 M = some z → wd_in cx_T D cy z0 ad u M X s H locs → lv_has ls 4 [(0, .ref (ad 0)), (1, .int x1), (2, .int x2)] → W p l e { frames := 8, cells := 2 * (z.2.2.2 - c0), slots := 52 * (z.2.2.2 - c0), locals := 238 } s m args below meth c H locs (2 * (M.2.2 - c0)) (52 * (M.2.2 - c0)) (MQ below (aq_i cx_T D cy z0 ad X z.1 z.2) args s (2 * (z.2.2.2 - c0)) (52 * (z.2.2.2 - c0)) (fun q => z0 ≤ q)) (F0 m 11 ls [])) (hm11 : ∀ (x1 : Int32) (x2 : Int32) (M : mm_M), q11 x1 x2 M = some z → M.2.2 ≤ z.2.2.2) (hf : f_X11_blunder_11 q11 x1 x2 M = some z) {H : Heap} {locs : List Loc} (hw : wd_in cx_T D cy z0 ad u M X s H locs) {ls : Array Slot} (hl : lv_has ls 4 [(0, .ref (ad 0)), (1, .int x1), (2, .int x2)]) : W p l e { frames := 8, cells := 2 * (z.2.2.2 - c0), slots := 52 * (z.2.2.2 - c0), locals := 238 } s m args below meth c H locs (2 * (M.2.2 - c0)) (52 * (M.2.2 - c0)) (MQ below (aq_i cx_T D cy z0 ad X z.1 z.2) args s (2 * (z.2.2.2 - c0)) (52 * (z.2.2.2 - c0)) (fun q => z0 ≤ q)) (F0 m 11 ls []) := by
  have hx := hC.1
  have hb := hC.2.1
  have hmz : M.2.2 ≤ z.2.2.2 := mo_X11_blunder_11 hm11 hf
  unfold f_X11_blunder_11 at hf
  refine lv_iload_n hx hb dX11_blunder_11 rfl (lv_at hl 2 rfl) ?_
  refine lv_aload_n hx hb dX11_blunder_12 rfl (lv_at hl 0 rfl) ?_
  refine rg_p hC hw 0 (Nat.le_of_ble_eq_true rfl) rfl fd_X11_3 wf_X11_35 (q := 14) rfl dX11_blunder_13 ?_
  refine rg_i hC hw 14 (Nat.le_of_ble_eq_true rfl) rfl fd_X3_2 wf_X11_144 dX11_blunder_16 ?_
  refine lv_icmp_ge (tgt := 55) hx hb dX11_blunder_19 (by decide) (fun c2 => ?_) (fun c2 => ?_)
  · rw [if_pos c2] at hf
    refine lv_iload_n hx hb dX11_blunder_55 rfl (lv_at hl 1 rfl) ?_
    refine W.widen (k := 2 * (z.2.2.2 - c0)) (n := 52 * (z.2.2.2 - c0)) (by omega) (by omega) ?_
    have hz := Option.some.inj hf
    subst hz
    exact rta_i hC hw dX11_blunder_56
  · rw [if_neg c2] at hf
    refine lv_aload_n hx hb dX11_blunder_22 rfl (lv_at hl 0 rfl) ?_
    refine rg_p hC hw 0 (Nat.le_of_ble_eq_true rfl) rfl fd_X11_4 wf_X11_44 (q := 19) rfl dX11_blunder_23 ?_
    refine lv_iload_n hx hb dX11_blunder_26 rfl (lv_at hl 2 rfl) ?_
    obtain ⟨z3, ez3, hf⟩ := bd_e hf
    refine clc_Vi hC hw (c_X6_failingBy ez3) hd_X6_failingBy cw_X11_305 (Nat.le_of_ble_eq_true rfl) rfl rfl (rest := []) hl.1 rfl (Nat.le_of_ble_eq_true rfl) ⟨Nat.le_of_ble_eq_true rfl, Nat.le_of_ble_eq_true rfl⟩ ⟨(show 2 * (M.2.2 - c0) ≤ 2 * (z.2.2.2 - c0) by omega), (show 52 * (M.2.2 - c0) ≤ 52 * (z.2.2.2 - c0) by omega)⟩ rfl dX11_blunder_27 (fun H locs hw => ?_)
    refine lv_istore_n (lv' := [(3, .int z3), (0, .ref (ad 0)), (1, .int x1), (2, .int x2)]) hx hb dX11_blunder_30 rfl hl (by decide) rfl (fun ls hl => ?_)
    refine lv_iload_n hx hb dX11_blunder_31 rfl (lv_at hl 0 rfl) ?_
    refine lv_if_ne (tgt := 37) hx hb dX11_blunder_32 (by decide) (fun c4 => ?_) (fun c4 => ?_)
    · rw [if_neg c4] at hf
      refine lv_iload_n hx hb dX11_blunder_37 rfl (lv_at hl 0 rfl) ?_
      obtain ⟨z5, ez5, hf⟩ := sq_e hf
      refine clc_Si hC hw (c_J6_bitCount_0f7a4 ez5.symm) hd_J6_bitCount_0f7a4 cw_X11_308 (rest := []) hl.1 rfl (Nat.le_of_ble_eq_true rfl) ⟨Nat.le_of_ble_eq_true rfl, Nat.le_of_ble_eq_true rfl⟩ ⟨(show 2 * (M.2.2 - c0) ≤ 2 * (z.2.2.2 - c0) by omega), (show 52 * (M.2.2 - c0) ≤ 52 * (z.2.2.2 - c0) by omega)⟩ rfl dX11_blunder_38 (fun H locs hw => ?_)
      refine lv_iconst (v := 1) hx hb dX11_blunder_41 (by decide) ?_
      refine lv_icmp_ne (tgt := 49) hx hb dX11_blunder_42 (by decide) (fun c6 => ?_) (fun c6 => ?_)
      · rw [if_neg c6] at hf
        refine W.widen (k := 2 * (M.2.2 - c0)) (n := 52 * (M.2.2 - c0)) (by omega) (by omega) ?_
        exact k_X11_blunder_49 hC (by omega) hq11 hm11 hf hw (lv_sub hl [1, 2, 3] rfl)
      · rw [if_pos c6] at hf
        refine lv_iload_n hx hb dX11_blunder_45 rfl (lv_at hl 2 rfl) ?_
        refine lv_iload_n hx hb dX11_blunder_46 rfl (lv_at hl 0 rfl) ?_
        refine lv_ior hx hb dX11_blunder_47 ?_
        obtain ⟨y7, ey7, hf⟩ := sq_e hf
        refine lt_i ey7 ?_
        refine lv_istore_n (lv' := [(1, .int y7), (3, .int z3), (0, .ref (ad 0)), (2, .int x2)]) hx hb dX11_blunder_48 rfl hl (by decide) rfl (fun ls hl => ?_)
        refine W.widen (k := 2 * (M.2.2 - c0)) (n := 52 * (M.2.2 - c0)) (by omega) (by omega) ?_
        exact k_X11_blunder_49 hC (by omega) hq11 hm11 hf hw (lv_sub hl [2, 0, 3] rfl)
    · rw [if_pos c4] at hf
      refine lv_iconst (v := 0) hx hb dX11_blunder_35 (by decide) ?_
      refine W.widen (k := 2 * (z.2.2.2 - c0)) (n := 52 * (z.2.2.2 - c0)) (by omega) (by omega) ?_
      have hz := Option.some.inj hf
      subst hz
      exact rta_i hC hw dX11_blunder_36
set_option maxRecDepth 100000 in
set_option maxHeartbeats 4000000 in
theorem k_X11_blunder_11l {p : Program} {l : Launch} {e : Env} {s : State} {m : MethodId} {args : Array Value} {below : List Frame} {meth : Method} {c : Code} {D : va_G} {cy : Nat → ClassId} {z0 : Nat} {ad : Nat → Nat} {X : va_W} (hC : cx_C p s m args meth c cX11_blunder "RhymedThen" (Cond.code yX11_blunder cX11_blunder 4 (some .int)) 4 (some .int)) {z : (Int32 × mm_M)} {c0 : Nat} : ∀ (n : Nat) (x1 : Int32) (x2 : Int32) (M : mm_M) (u : Nat × Nat) (H : Heap) (locs : List Loc) (ls : Array Slot), c0 ≤ M.2.2 → f_X11_blunder_11l n x1 x2 M = some z → wd_in cx_T D cy z0 ad u M X s H locs → lv_has ls 4 [(0, .ref (ad 0)), (1, .int x1), (2, .int x2)] → W p l e { frames := 8, cells := 2 * (z.2.2.2 - c0), slots := 52 * (z.2.2.2 - c0), locals := 238 } s m args below meth c H locs (2 * (M.2.2 - c0)) (52 * (M.2.2 - c0)) (MQ below (aq_i cx_T D cy z0 ad X z.1 z.2) args s (2 * (z.2.2.2 - c0)) (52 * (z.2.2.2 - c0)) (fun q => z0 ≤ q)) (F0 m 11 ls []) := by
  intro n
  induction n with
  | zero => intro x1 x2 M u H locs ls hc0 hf; exact absurd hf (by simp [f_X11_blunder_11l])
  | succ n ih => intro x1 x2 M u H locs ls hc0 hf hw hl; exact k_X11_blunder_11 hC hc0 ih (mo_X11_blunder_11l n) hf hw hl
set_option maxRecDepth 100000 in
set_option maxHeartbeats 4000000 in
theorem k_X11_blunder_7 {p : Program} {l : Launch} {e : Env} {s : State} {m : MethodId} {args : Array Value} {below : List Frame} {meth : Method} {c : Code} {D : va_G} {cy : Nat → ClassId} {z0 : Nat} {ad : Nat → Nat} {X : va_W} {u : Nat × Nat} (hC : cx_C p s m args meth c cX11_blunder "RhymedThen" (Cond.code yX11_blunder cX11_blunder 4 (some .int)) 4 (some .int)) {z : (Int32 × mm_M)} {c0 : Nat} {M : mm_M} (hc0 : c0 ≤ M.2.2) (hf : f_X11_blunder_7 M = some z) {H : Heap} {locs : List Loc} (hw : wd_in cx_T D cy z0 ad u M X s H locs) {ls : Array Slot} (hl : lv_has ls 4 [(0, .ref (ad 0))]) : W p l e { frames := 8, cells := 2 * (z.2.2.2 - c0), slots := 52 * (z.2.2.2 - c0), locals := 238 } s m args below meth c H locs (2 * (M.2.2 - c0)) (52 * (M.2.2 - c0)) (MQ below (aq_i cx_T D cy z0 ad X z.1 z.2) args s (2 * (z.2.2.2 - c0)) (52 * (z.2.2.2 - c0)) (fun q => z0 ≤ q)) (F0 m 7 ls []) := by
  have hx := hC.1
  have hb := hC.2.1
  have hmz : M.2.2 ≤ z.2.2.2 := mo_X11_blunder_7 hf
  unfold f_X11_blunder_7 at hf
  refine lv_iconst (v := 0) hx hb dX11_blunder_7 (by decide) ?_
  refine lv_istore_n (lv' := [(1, .int 0), (0, .ref (ad 0))]) hx hb dX11_blunder_8 rfl hl (by decide) rfl (fun ls hl => ?_)
  refine lv_iconst (v := 0) hx hb dX11_blunder_9 (by decide) ?_
  refine lv_istore_n (lv' := [(2, .int 0), (1, .int 0), (0, .ref (ad 0))]) hx hb dX11_blunder_10 rfl hl (by decide) rfl (fun ls hl => ?_)
  refine W.widen (k := 2 * (M.2.2 - c0)) (n := 52 * (M.2.2 - c0)) (by omega) (by omega) ?_
  exact k_X11_blunder_11l hC fu_ _ _ _ _ _ _ _ (by omega) hf hw (lv_sub hl [2, 1, 0] rfl)
set_option maxRecDepth 100000 in
set_option maxHeartbeats 4000000 in
theorem k_X11_blunder {p : Program} {l : Launch} {e : Env} {s : State} {m : MethodId} {args : Array Value} {below : List Frame} {meth : Method} {c : Code} {D : va_G} {cy : Nat → ClassId} {z0 : Nat} {ad : Nat → Nat} {X : va_W} {u : Nat × Nat} (hC : cx_C p s m args meth c cX11_blunder "RhymedThen" (Cond.code yX11_blunder cX11_blunder 4 (some .int)) 4 (some .int)) {z : (Int32 × mm_M)} {c0 : Nat} {M : mm_M} (hc0 : c0 ≤ M.2.2) (hf : f_X11_blunder M = some z) {H : Heap} {locs : List Loc} (hw : wd_in cx_T D cy z0 ad u M X s H locs) {ls : Array Slot} (hl : lv_has ls 4 [(0, .ref (ad 0))]) : W p l e { frames := 8, cells := 2 * (z.2.2.2 - c0), slots := 52 * (z.2.2.2 - c0), locals := 238 } s m args below meth c H locs (2 * (M.2.2 - c0)) (52 * (M.2.2 - c0)) (MQ below (aq_i cx_T D cy z0 ad X z.1 z.2) args s (2 * (z.2.2.2 - c0)) (52 * (z.2.2.2 - c0)) (fun q => z0 ≤ q)) (F0 m 0 ls []) := by
  have hx := hC.1
  have hb := hC.2.1
  have hmz : M.2.2 ≤ z.2.2.2 := mo_X11_blunder hf
  unfold f_X11_blunder at hf
  refine lv_aload_n hx hb dX11_blunder_0 rfl (lv_at hl 0 rfl) ?_
  refine rg_p hC hw 0 (Nat.le_of_ble_eq_true rfl) rfl fd_X11_4 wf_X11_44 (q := 19) rfl dX11_blunder_1 ?_
  obtain ⟨z1, ez1, hf⟩ := bd_e hf
  have mz1 : M.2.2 ≤ z1.2.2 := mo_X6_lookAnew ez1
  have hnz : z1.2.2 ≤ z.2.2.2 := mo_X11_blunder_7 hf
  refine cla_Vv hC hw (c_X6_lookAnew ez1) hd_X6_lookAnew cw_X11_286 (Nat.le_of_ble_eq_true rfl) rfl rfl (rest := []) hl.1 rfl (Nat.le_of_ble_eq_true rfl) ⟨Nat.le_of_ble_eq_true rfl, Nat.le_of_ble_eq_true rfl⟩ ⟨(show 2 * (M.2.2 - c0) + 2 * (z1.2.2 - M.2.2) ≤ 2 * (z.2.2.2 - c0) by omega), (show 52 * (M.2.2 - c0) + 52 * (z1.2.2 - M.2.2) ≤ 52 * (z.2.2.2 - c0) by omega)⟩ rfl dX11_blunder_4 (fun u H locs hw => ?_)
  refine W.widen (k := 2 * (z1.2.2 - c0)) (n := 52 * (z1.2.2 - c0)) (by omega) (by omega) ?_
  exact k_X11_blunder_7 hC (by omega) hf hw (lv_sub hl [0] rfl)
set_option maxRecDepth 100000 in
theorem c_X11_blunder {l : Launch} {D : va_G} {cy : Nat → ClassId} {z0 : Nat} {ad : Nat → Nat} {u : Nat × Nat} {X : va_W} {z : (Int32 × mm_M)} {M : mm_M} (hf : f_X11_blunder M = some z) : ca_i cx_T l yX11_blunder (Cond.code yX11_blunder cX11_blunder 4 (some .int)) 8 238 D cy z0 ad u M X [.ref (ad 0)] z.1 z.2 := by
  refine bga_i (by decide) (fun p e s m below meth c hC hw => ?_)
  refine en_t (Nat.le_of_ble_eq_true rfl) (fun ls hl => ?_)
  have hl : lv_has ls 4 [(0, .ref (ad 0))] := hl
  refine W.widen (k := 2 * (M.2.2 - M.2.2)) (n := 52 * (M.2.2 - M.2.2)) (by omega) (by omega) ?_
  exact k_X11_blunder hC (Nat.le_refl _) hf hw hl
set_option maxRecDepth 100000 in
set_option maxHeartbeats 4000000 in
theorem k_X11_sure_92 {p : Program} {l : Launch} {e : Env} {s : State} {m : MethodId} {args : Array Value} {below : List Frame} {meth : Method} {c : Code} {D : va_G} {cy : Nat → ClassId} {z0 : Nat} {ad : Nat → Nat} {X : va_W} {u : Nat × Nat} (hC : cx_C p s m args meth c cX11_sure "RhymedThen" (Cond.code yX11_sure cX11_sure 5 (some .int)) 5 (some .int)) {z : (Int32 × mm_M)} {c0 : Nat} {x1 : Int32} {x2 : Int32} {x3 : Int32} {x4 : Int32} {M : mm_M} (hc0 : c0 ≤ M.2.2) {q41 : Int32 → Int32 → Int32 → Int32 → mm_M → Option (Int32 × mm_M)} (hq41 : ∀ (x1 : Int32) (x2 : Int32) (x3 : Int32) (x4 : Int32) (M : mm_M) (u : Nat × Nat) (H : Heap) (locs : List Loc) (ls : Array Slot), c0 ≤ M.2.2 → q41 x1 x2 x3 x4 M = some z → wd_in cx_T D cy z0 ad u M X s H locs → lv_has ls 5 [(0, .ref (ad 0)), (1, .int x1), (2, .int x2), (3, .int x3), (4, .int x4)] → W p l e { frames := 8, cells := 2 * (z.2.2.2 - c0), slots := 52 * (z.2.2.2 - c0), locals := 238 } s m args below meth c H locs (2 * (M.2.2 - c0)) (52 * (M.2.2 - c0)) (MQ below (aq_i cx_T D cy z0 ad X z.1 z.2) args s (2 * (z.2.2.2 - c0)) (52 * (z.2.2.2 - c0)) (fun q => z0 ≤ q)) (F0 m 41 ls [])) (hm41 : ∀ (x1 : Int32) (x2 : Int32) (x3 : Int32) (x4 : Int32) (M : mm_M), q41 x1 x2 x3 x4 M = some z → M.2.2 ≤ z.2.2.2) (hf : f_X11_sure_92 q41 x1 x2 x3 x4 M = some z) {H : Heap} {locs : List Loc} (hw : wd_in cx_T D cy z0 ad u M X s H locs) {ls : Array Slot} (hl : lv_has ls 5 [(0, .ref (ad 0)), (1, .int x1), (2, .int x2), (3, .int x3), (4, .int x4)]) : W p l e { frames := 8, cells := 2 * (z.2.2.2 - c0), slots := 52 * (z.2.2.2 - c0), locals := 238 } s m args below meth c H locs (2 * (M.2.2 - c0)) (52 * (M.2.2 - c0)) (MQ below (aq_i cx_T D cy z0 ad X z.1 z.2) args s (2 * (z.2.2.2 - c0)) (52 * (z.2.2.2 - c0)) (fun q => z0 ≤ q)) (F0 m 92 ls []) := by
  have hx := hC.1
  have hb := hC.2.1
  have hmz : M.2.2 ≤ z.2.2.2 := mo_X11_sure_92 hm41 hf
  unfold f_X11_sure_92 at hf
  obtain ⟨y19, ey19, hf⟩ := sq_e hf
  refine lv_iinc (v := y19) (lv' := [(4, .int y19), (0, .ref (ad 0)), (1, .int x1), (2, .int x2), (3, .int x3)]) hx hb dX11_sure_92 hl (k := 4) rfl (by rw [ey19]; rfl) (by decide) rfl (fun ls hl => ?_)
  refine lv_goto (tgt := 41) hx hb dX11_sure_95 (by decide) ?_
  refine W.widen (k := 2 * (M.2.2 - c0)) (n := 52 * (M.2.2 - c0)) (by omega) (by omega) ?_
  exact hq41 _ _ _ _ _ _ _ _ _ (by omega) hf hw (lv_sub hl [1, 2, 3, 4, 0] rfl)
set_option maxRecDepth 100000 in
set_option maxHeartbeats 4000000 in
theorem k_X11_sure_84 {p : Program} {l : Launch} {e : Env} {s : State} {m : MethodId} {args : Array Value} {below : List Frame} {meth : Method} {c : Code} {D : va_G} {cy : Nat → ClassId} {z0 : Nat} {ad : Nat → Nat} {X : va_W} {u : Nat × Nat} (hC : cx_C p s m args meth c cX11_sure "RhymedThen" (Cond.code yX11_sure cX11_sure 5 (some .int)) 5 (some .int)) {z : (Int32 × mm_M)} {c0 : Nat} {x1 : Int32} {x2 : Int32} {x3 : Int32} {x4 : Int32} {t2 : Int32} {M : mm_M} (hc0 : c0 ≤ M.2.2) {q41 : Int32 → Int32 → Int32 → Int32 → mm_M → Option (Int32 × mm_M)} (hq41 : ∀ (x1 : Int32) (x2 : Int32) (x3 : Int32) (x4 : Int32) (M : mm_M) (u : Nat × Nat) (H : Heap) (locs : List Loc) (ls : Array Slot), c0 ≤ M.2.2 → q41 x1 x2 x3 x4 M = some z → wd_in cx_T D cy z0 ad u M X s H locs → lv_has ls 5 [(0, .ref (ad 0)), (1, .int x1), (2, .int x2), (3, .int x3), (4, .int x4)] → W p l e { frames := 8, cells := 2 * (z.2.2.2 - c0), slots := 52 * (z.2.2.2 - c0), locals := 238 } s m args below meth c H locs (2 * (M.2.2 - c0)) (52 * (M.2.2 - c0)) (MQ below (aq_i cx_T D cy z0 ad X z.1 z.2) args s (2 * (z.2.2.2 - c0)) (52 * (z.2.2.2 - c0)) (fun q => z0 ≤ q)) (F0 m 41 ls [])) (hm41 : ∀ (x1 : Int32) (x2 : Int32) (x3 : Int32) (x4 : Int32) (M : mm_M), q41 x1 x2 x3 x4 M = some z → M.2.2 ≤ z.2.2.2) (hf : f_X11_sure_84 q41 x1 x2 x3 x4 t2 M = some z) {H : Heap} {locs : List Loc} (hw : wd_in cx_T D cy z0 ad u M X s H locs) {ls : Array Slot} (hl : lv_has ls 5 [(0, .ref (ad 0)), (1, .int x1), (2, .int x2), (3, .int x3), (4, .int x4)]) : W p l e { frames := 8, cells := 2 * (z.2.2.2 - c0), slots := 52 * (z.2.2.2 - c0), locals := 238 } s m args below meth c H locs (2 * (M.2.2 - c0)) (52 * (M.2.2 - c0)) (MQ below (aq_i cx_T D cy z0 ad X z.1 z.2) args s (2 * (z.2.2.2 - c0)) (52 * (z.2.2.2 - c0)) (fun q => z0 ≤ q)) (F0 m 84 ls [.int t2, .ref (ad 5), .ref (ad 39)]) := by
  have hx := hC.1
  have hb := hC.2.1
  have hmz : M.2.2 ≤ z.2.2.2 := mo_X11_sure_84 hm41 hf
  unfold f_X11_sure_84 at hf
  refine lv_iload_n hx hb dX11_sure_84 rfl (lv_at hl 1 rfl) ?_
  obtain ⟨z20, ez20, hf⟩ := bd_e hf
  refine clc_Vl hC hw (c_X9_formOn ez20) hd_X9_formOn cw_X11_198 (Nat.le_of_ble_eq_true rfl) rfl rfl (rest := [.ref (ad 39)]) hl.1 rfl (Nat.le_of_ble_eq_true rfl) ⟨Nat.le_of_ble_eq_true rfl, Nat.le_of_ble_eq_true rfl⟩ ⟨(show 2 * (M.2.2 - c0) ≤ 2 * (z.2.2.2 - c0) by omega), (show 52 * (M.2.2 - c0) ≤ 52 * (z.2.2.2 - c0) by omega)⟩ rfl dX11_sure_85 (fun H locs hw => ?_)
  refine lv_lconst (v := 1) hx hb dX11_sure_88 (by decide) ?_
  obtain ⟨z21, ez21, hf⟩ := bd_e hf
  have mz21 : M.2.2 ≤ z21.2.2 := mo_X10_add ez21
  refine clc_Vv hC hw (c_X10_add ez21) hd_X10_add cw_X11_314 (Nat.le_of_ble_eq_true rfl) rfl rfl (rest := []) hl.1 rfl (Nat.le_of_ble_eq_true rfl) ⟨Nat.le_of_ble_eq_true rfl, Nat.le_of_ble_eq_true rfl⟩ ⟨(show 2 * (M.2.2 - c0) ≤ 2 * (z.2.2.2 - c0) by omega), (show 52 * (M.2.2 - c0) ≤ 52 * (z.2.2.2 - c0) by omega)⟩ rfl dX11_sure_89 (fun H locs hw => ?_)
  refine W.widen (k := 2 * (z21.2.2 - c0)) (n := 52 * (z21.2.2 - c0)) (by omega) (by omega) ?_
  exact k_X11_sure_92 hC (by omega) hq41 hm41 hf hw (lv_sub hl [0, 1, 2, 3, 4] rfl)
set_option maxRecDepth 100000 in
set_option maxHeartbeats 4000000 in
theorem k_X11_sure_98 {p : Program} {l : Launch} {e : Env} {s : State} {m : MethodId} {args : Array Value} {below : List Frame} {meth : Method} {c : Code} {D : va_G} {cy : Nat → ClassId} {z0 : Nat} {ad : Nat → Nat} {X : va_W} {u : Nat × Nat} (hC : cx_C p s m args meth c cX11_sure "RhymedThen" (Cond.code yX11_sure cX11_sure 5 (some .int)) 5 (some .int)) {z : (Int32 × mm_M)} {c0 : Nat} {M : mm_M} (hc0 : c0 ≤ M.2.2) (hf : f_X11_sure_98 M = some z) {H : Heap} {locs : List Loc} (hw : wd_in cx_T D cy z0 ad u M X s H locs) {ls : Array Slot} (hl : lv_has ls 5 [(0, .ref (ad 0))]) : W p l e { frames := 8, cells := 2 * (z.2.2.2 - c0), slots := 52 * (z.2.2.2 - c0), locals := 238 } s m args below meth c H locs (2 * (M.2.2 - c0)) (52 * (M.2.2 - c0)) (MQ below (aq_i cx_T D cy z0 ad X z.1 z.2) args s (2 * (z.2.2.2 - c0)) (52 * (z.2.2.2 - c0)) (fun q => z0 ≤ q)) (F0 m 98 ls []) := by
  have hx := hC.1
  have hb := hC.2.1
  have hmz : M.2.2 ≤ z.2.2.2 := mo_X11_sure_98 hf
  unfold f_X11_sure_98 at hf
  refine lv_aload_n hx hb dX11_sure_98 rfl (lv_at hl 0 rfl) ?_
  refine rg_p hC hw 0 (Nat.le_of_ble_eq_true rfl) rfl fd_X11_6 wf_X11_58 (q := 39) rfl dX11_sure_99 ?_
  refine rg_i hC hw 39 (Nat.le_of_ble_eq_true rfl) rfl fd_X10_2 wf_X11_316 dX11_sure_102 ?_
  refine lv_if_ne (tgt := 111) hx hb dX11_sure_105 (by decide) (fun c13 => ?_) (fun c13 => ?_)
  · rw [if_neg c13] at hf
    refine lv_aload_n hx hb dX11_sure_111 rfl (lv_at hl 0 rfl) ?_
    refine rg_p hC hw 0 (Nat.le_of_ble_eq_true rfl) rfl fd_X11_1 wf_X11_19 (q := 3) rfl dX11_sure_112 ?_
    obtain ⟨z14, ez14, hf⟩ := sq_e hf
    have mz14 : M.2.2 ≤ z14.2.2 := mo_X4_clear ez14.symm
    refine clc_Vv hC hw (c_X4_clear ez14.symm) hd_X4_clear cw_X11_192 (Nat.le_of_ble_eq_true rfl) rfl rfl (rest := []) hl.1 rfl (Nat.le_of_ble_eq_true rfl) ⟨Nat.le_of_ble_eq_true rfl, Nat.le_of_ble_eq_true rfl⟩ ⟨(show 2 * (M.2.2 - c0) ≤ 2 * (z.2.2.2 - c0) by omega), (show 52 * (M.2.2 - c0) ≤ 52 * (z.2.2.2 - c0) by omega)⟩ rfl dX11_sure_115 (fun H locs hw => ?_)
    refine lv_aload_n hx hb dX11_sure_118 rfl (lv_at hl 0 rfl) ?_
    refine rg_p hC hw 0 (Nat.le_of_ble_eq_true rfl) rfl fd_X11_1 wf_X11_19 (q := 3) rfl dX11_sure_119 ?_
    refine lv_aload_n hx hb dX11_sure_122 rfl (lv_at hl 0 rfl) ?_
    refine rg_p hC hw 0 (Nat.le_of_ble_eq_true rfl) rfl fd_X11_6 wf_X11_58 (q := 39) rfl dX11_sure_123 ?_
    obtain ⟨z15, ez15, hf⟩ := bd_e hf
    refine clc_Vi hC hw (c_X10_shortest ez15) hd_X10_shortest cw_X11_317 (Nat.le_of_ble_eq_true rfl) rfl rfl (rest := [.ref (ad 3)]) hl.1 rfl (Nat.le_of_ble_eq_true rfl) ⟨Nat.le_of_ble_eq_true rfl, Nat.le_of_ble_eq_true rfl⟩ ⟨(show 2 * (M.2.2 - c0) ≤ 2 * (z.2.2.2 - c0) by omega), (show 52 * (M.2.2 - c0) ≤ 52 * (z.2.2.2 - c0) by omega)⟩ rfl dX11_sure_126 (fun H locs hw => ?_)
    refine lv_i2l hx hb dX11_sure_129 rfl ?_
    obtain ⟨z16, ez16, hf⟩ := bd_e hf
    have mz16 : z14.2.2 ≤ z16.2.2 := mo_X4_add ez16
    refine clc_Vv hC hw (c_X4_add ez16) hd_X4_add cw_X11_214 (Nat.le_of_ble_eq_true rfl) rfl rfl (rest := []) hl.1 rfl (Nat.le_of_ble_eq_true rfl) ⟨Nat.le_of_ble_eq_true rfl, Nat.le_of_ble_eq_true rfl⟩ ⟨(show 2 * (M.2.2 - c0) ≤ 2 * (z.2.2.2 - c0) by omega), (show 52 * (M.2.2 - c0) ≤ 52 * (z.2.2.2 - c0) by omega)⟩ rfl dX11_sure_130 (fun H locs hw => ?_)
    refine lv_aload_n hx hb dX11_sure_133 rfl (lv_at hl 0 rfl) ?_
    refine rg_p hC hw 0 (Nat.le_of_ble_eq_true rfl) rfl fd_X11_1 wf_X11_19 (q := 3) rfl dX11_sure_134 ?_
    refine lv_aload_n hx hb dX11_sure_137 rfl (lv_at hl 0 rfl) ?_
    refine rg_p hC hw 0 (Nat.le_of_ble_eq_true rfl) rfl fd_X11_6 wf_X11_58 (q := 39) rfl dX11_sure_138 ?_
    obtain ⟨z17, ez17, hf⟩ := bd_e hf
    refine clc_Vi hC hw (c_X10_longest ez17) hd_X10_longest cw_X11_320 (Nat.le_of_ble_eq_true rfl) rfl rfl (rest := [.ref (ad 3)]) hl.1 rfl (Nat.le_of_ble_eq_true rfl) ⟨Nat.le_of_ble_eq_true rfl, Nat.le_of_ble_eq_true rfl⟩ ⟨(show 2 * (M.2.2 - c0) ≤ 2 * (z.2.2.2 - c0) by omega), (show 52 * (M.2.2 - c0) ≤ 52 * (z.2.2.2 - c0) by omega)⟩ rfl dX11_sure_141 (fun H locs hw => ?_)
    refine lv_i2l hx hb dX11_sure_144 rfl ?_
    obtain ⟨z18, ez18, hf⟩ := bd_e hf
    have mz18 : z16.2.2 ≤ z18.2.2 := mo_X4_add ez18
    refine clc_Vv hC hw (c_X4_add ez18) hd_X4_add cw_X11_214 (Nat.le_of_ble_eq_true rfl) rfl rfl (rest := []) hl.1 rfl (Nat.le_of_ble_eq_true rfl) ⟨Nat.le_of_ble_eq_true rfl, Nat.le_of_ble_eq_true rfl⟩ ⟨(show 2 * (M.2.2 - c0) ≤ 2 * (z.2.2.2 - c0) by omega), (show 52 * (M.2.2 - c0) ≤ 52 * (z.2.2.2 - c0) by omega)⟩ rfl dX11_sure_145 (fun H locs hw => ?_)
    refine lv_aload_n hx hb dX11_sure_148 rfl (lv_at hl 0 rfl) ?_
    refine rg_p hC hw 0 (Nat.le_of_ble_eq_true rfl) rfl fd_X11_6 wf_X11_58 (q := 39) rfl dX11_sure_149 ?_
    refine rg_i hC hw 39 (Nat.le_of_ble_eq_true rfl) rfl fd_X10_2 wf_X11_316 dX11_sure_152 ?_
    refine W.widen (k := 2 * (z.2.2.2 - c0)) (n := 52 * (z.2.2.2 - c0)) (by omega) (by omega) ?_
    have hz := Option.some.inj hf
    subst hz
    exact rta_i hC hw dX11_sure_155
  · rw [if_pos c13] at hf
    refine lv_bipush (v := (-2)) hx hb dX11_sure_108 (by decide) ?_
    refine W.widen (k := 2 * (z.2.2.2 - c0)) (n := 52 * (z.2.2.2 - c0)) (by omega) (by omega) ?_
    have hz := Option.some.inj hf
    subst hz
    exact rta_i hC hw dX11_sure_110
set_option maxRecDepth 100000 in
set_option maxHeartbeats 4000000 in
theorem k_X11_sure_41 {p : Program} {l : Launch} {e : Env} {s : State} {m : MethodId} {args : Array Value} {below : List Frame} {meth : Method} {c : Code} {D : va_G} {cy : Nat → ClassId} {z0 : Nat} {ad : Nat → Nat} {X : va_W} {u : Nat × Nat} (hC : cx_C p s m args meth c cX11_sure "RhymedThen" (Cond.code yX11_sure cX11_sure 5 (some .int)) 5 (some .int)) {z : (Int32 × mm_M)} {c0 : Nat} {x1 : Int32} {x2 : Int32} {x3 : Int32} {x4 : Int32} {M : mm_M} (hc0 : c0 ≤ M.2.2) {q41 : Int32 → Int32 → Int32 → Int32 → mm_M → Option (Int32 × mm_M)} (hq41 : ∀ (x1 : Int32) (x2 : Int32) (x3 : Int32) (x4 : Int32) (M : mm_M) (u : Nat × Nat) (H : Heap) (locs : List Loc) (ls : Array Slot), c0 ≤ M.2.2 → q41 x1 x2 x3 x4 M = some z → wd_in cx_T D cy z0 ad u M X s H locs → lv_has ls 5 [(0, .ref (ad 0)), (1, .int x1), (2, .int x2), (3, .int x3), (4, .int x4)] → W p l e { frames := 8, cells := 2 * (z.2.2.2 - c0), slots := 52 * (z.2.2.2 - c0), locals := 238 } s m args below meth c H locs (2 * (M.2.2 - c0)) (52 * (M.2.2 - c0)) (MQ below (aq_i cx_T D cy z0 ad X z.1 z.2) args s (2 * (z.2.2.2 - c0)) (52 * (z.2.2.2 - c0)) (fun q => z0 ≤ q)) (F0 m 41 ls [])) (hm41 : ∀ (x1 : Int32) (x2 : Int32) (x3 : Int32) (x4 : Int32) (M : mm_M), q41 x1 x2 x3 x4 M = some z → M.2.2 ≤ z.2.2.2) (hf : f_X11_sure_41 q41 x1 x2 x3 x4 M = some z) {H : Heap} {locs : List Loc} (hw : wd_in cx_T D cy z0 ad u M X s H locs) {ls : Array Slot} (hl : lv_has ls 5 [(0, .ref (ad 0)), (1, .int x1), (2, .int x2), (3, .int x3), (4, .int x4)]) : W p l e { frames := 8, cells := 2 * (z.2.2.2 - c0), slots := 52 * (z.2.2.2 - c0), locals := 238 } s m args below meth c H locs (2 * (M.2.2 - c0)) (52 * (M.2.2 - c0)) (MQ below (aq_i cx_T D cy z0 ad X z.1 z.2) args s (2 * (z.2.2.2 - c0)) (52 * (z.2.2.2 - c0)) (fun q => z0 ≤ q)) (F0 m 41 ls []) := by
  have hx := hC.1
  have hb := hC.2.1
  have hmz : M.2.2 ≤ z.2.2.2 := mo_X11_sure_41 hm41 hf
  unfold f_X11_sure_41 at hf
  refine lv_iload hx hb dX11_sure_41 (lv_at hl 4 rfl) ?_
  refine lv_aload_n hx hb dX11_sure_43 rfl (lv_at hl 0 rfl) ?_
  refine rg_p hC hw 0 (Nat.le_of_ble_eq_true rfl) rfl fd_X11_3 wf_X11_35 (q := 14) rfl dX11_sure_44 ?_
  refine rg_i hC hw 14 (Nat.le_of_ble_eq_true rfl) rfl fd_X3_2 wf_X11_144 dX11_sure_47 ?_
  refine lv_icmp_ge (tgt := 98) hx hb dX11_sure_50 (by decide) (fun c9 => ?_) (fun c9 => ?_)
  · rw [if_pos c9] at hf
    refine W.widen (k := 2 * (M.2.2 - c0)) (n := 52 * (M.2.2 - c0)) (by omega) (by omega) ?_
    exact k_X11_sure_98 hC (by omega) hf hw (lv_sub hl [0] rfl)
  · rw [if_neg c9] at hf
    refine lv_aload_n hx hb dX11_sure_53 rfl (lv_at hl 0 rfl) ?_
    refine rg_p hC hw 0 (Nat.le_of_ble_eq_true rfl) rfl fd_X11_4 wf_X11_44 (q := 19) rfl dX11_sure_54 ?_
    refine lv_iload hx hb dX11_sure_57 (lv_at hl 4 rfl) ?_
    obtain ⟨z10, ez10, hf⟩ := bd_e hf
    refine clc_Vi hC hw (c_X6_fitsTo ez10) hd_X6_fitsTo cw_X11_293 (Nat.le_of_ble_eq_true rfl) rfl rfl (rest := []) hl.1 rfl (Nat.le_of_ble_eq_true rfl) ⟨Nat.le_of_ble_eq_true rfl, Nat.le_of_ble_eq_true rfl⟩ ⟨(show 2 * (M.2.2 - c0) ≤ 2 * (z.2.2.2 - c0) by omega), (show 52 * (M.2.2 - c0) ≤ 52 * (z.2.2.2 - c0) by omega)⟩ rfl dX11_sure_59 (fun H locs hw => ?_)
    refine lv_if_eq (tgt := 92) hx hb dX11_sure_62 (by decide) (fun c11 => ?_) (fun c11 => ?_)
    · rw [if_pos c11] at hf
      refine W.widen (k := 2 * (M.2.2 - c0)) (n := 52 * (M.2.2 - c0)) (by omega) (by omega) ?_
      exact k_X11_sure_92 hC (by omega) hq41 hm41 hf hw (lv_sub hl [0, 1, 2, 3, 4] rfl)
    · rw [if_neg c11] at hf
      refine lv_aload_n hx hb dX11_sure_65 rfl (lv_at hl 0 rfl) ?_
      refine rg_p hC hw 0 (Nat.le_of_ble_eq_true rfl) rfl fd_X11_6 wf_X11_58 (q := 39) rfl dX11_sure_66 ?_
      refine lv_aload_n hx hb dX11_sure_69 rfl (lv_at hl 0 rfl) ?_
      refine rg_p hC hw 0 (Nat.le_of_ble_eq_true rfl) rfl fd_X11_2 wf_X11_26 (q := 5) rfl dX11_sure_70 ?_
      refine lv_aload_n hx hb dX11_sure_73 rfl (lv_at hl 0 rfl) ?_
      refine rg_p hC hw 0 (Nat.le_of_ble_eq_true rfl) rfl fd_X11_3 wf_X11_35 (q := 14) rfl dX11_sure_74 ?_
      refine lv_iload hx hb dX11_sure_77 (lv_at hl 4 rfl) ?_
      refine lv_iload_n hx hb dX11_sure_79 rfl (lv_at hl 2 rfl) ?_
      refine lv_iload_n hx hb dX11_sure_80 rfl (lv_at hl 3 rfl) ?_
      obtain ⟨z12, ez12, hf⟩ := bd_e hf
      have mz12 : M.2.2 ≤ z12.2.2.2 := mo_X3_courseAt ez12
      have hnz : z12.2.2.2 ≤ z.2.2.2 := mo_X11_sure_84 hm41 hf
      refine cla_Vi hC hw (c_X3_courseAt ez12) hd_X3_courseAt cw_X11_195 (Nat.le_of_ble_eq_true rfl) rfl rfl (rest := [.ref (ad 5), .ref (ad 39)]) hl.1 rfl (Nat.le_of_ble_eq_true rfl) ⟨Nat.le_of_ble_eq_true rfl, Nat.le_of_ble_eq_true rfl⟩ ⟨(show 2 * (M.2.2 - c0) + 2 * (z12.2.2.2 - M.2.2) ≤ 2 * (z.2.2.2 - c0) by omega), (show 52 * (M.2.2 - c0) + 52 * (z12.2.2.2 - M.2.2) ≤ 52 * (z.2.2.2 - c0) by omega)⟩ rfl dX11_sure_81 (fun u H locs hw => ?_)
      refine W.widen (k := 2 * (z12.2.2.2 - c0)) (n := 52 * (z12.2.2.2 - c0)) (by omega) (by omega) ?_
      exact k_X11_sure_84 hC (by omega) hq41 hm41 hf hw (lv_sub hl [0, 1, 2, 3, 4] rfl)
set_option maxRecDepth 100000 in
set_option maxHeartbeats 4000000 in
theorem k_X11_sure_41l {p : Program} {l : Launch} {e : Env} {s : State} {m : MethodId} {args : Array Value} {below : List Frame} {meth : Method} {c : Code} {D : va_G} {cy : Nat → ClassId} {z0 : Nat} {ad : Nat → Nat} {X : va_W} (hC : cx_C p s m args meth c cX11_sure "RhymedThen" (Cond.code yX11_sure cX11_sure 5 (some .int)) 5 (some .int)) {z : (Int32 × mm_M)} {c0 : Nat} : ∀ (n : Nat) (x1 : Int32) (x2 : Int32) (x3 : Int32) (x4 : Int32) (M : mm_M) (u : Nat × Nat) (H : Heap) (locs : List Loc) (ls : Array Slot), c0 ≤ M.2.2 → f_X11_sure_41l n x1 x2 x3 x4 M = some z → wd_in cx_T D cy z0 ad u M X s H locs → lv_has ls 5 [(0, .ref (ad 0)), (1, .int x1), (2, .int x2), (3, .int x3), (4, .int x4)] → W p l e { frames := 8, cells := 2 * (z.2.2.2 - c0), slots := 52 * (z.2.2.2 - c0), locals := 238 } s m args below meth c H locs (2 * (M.2.2 - c0)) (52 * (M.2.2 - c0)) (MQ below (aq_i cx_T D cy z0 ad X z.1 z.2) args s (2 * (z.2.2.2 - c0)) (52 * (z.2.2.2 - c0)) (fun q => z0 ≤ q)) (F0 m 41 ls []) := by
  intro n
  induction n with
  | zero => intro x1 x2 x3 x4 M u H locs ls hc0 hf; exact absurd hf (by simp [f_X11_sure_41l])
  | succ n ih => intro x1 x2 x3 x4 M u H locs ls hc0 hf hw hl; exact k_X11_sure_41 hC hc0 ih (mo_X11_sure_41l n) hf hw hl
set_option maxRecDepth 100000 in
set_option maxHeartbeats 4000000 in
theorem k_X11_sure_31 {p : Program} {l : Launch} {e : Env} {s : State} {m : MethodId} {args : Array Value} {below : List Frame} {meth : Method} {c : Code} {D : va_G} {cy : Nat → ClassId} {z0 : Nat} {ad : Nat → Nat} {X : va_W} {u : Nat × Nat} (hC : cx_C p s m args meth c cX11_sure "RhymedThen" (Cond.code yX11_sure cX11_sure 5 (some .int)) 5 (some .int)) {z : (Int32 × mm_M)} {c0 : Nat} {x1 : Int32} {x2 : Int32} {x3 : Int32} {M : mm_M} (hc0 : c0 ≤ M.2.2) (hf : f_X11_sure_31 x1 x2 x3 M = some z) {H : Heap} {locs : List Loc} (hw : wd_in cx_T D cy z0 ad u M X s H locs) {ls : Array Slot} (hl : lv_has ls 5 [(0, .ref (ad 0)), (1, .int x1), (2, .int x2), (3, .int x3)]) : W p l e { frames := 8, cells := 2 * (z.2.2.2 - c0), slots := 52 * (z.2.2.2 - c0), locals := 238 } s m args below meth c H locs (2 * (M.2.2 - c0)) (52 * (M.2.2 - c0)) (MQ below (aq_i cx_T D cy z0 ad X z.1 z.2) args s (2 * (z.2.2.2 - c0)) (52 * (z.2.2.2 - c0)) (fun q => z0 ≤ q)) (F0 m 31 ls []) := by
  have hx := hC.1
  have hb := hC.2.1
  have hmz : M.2.2 ≤ z.2.2.2 := mo_X11_sure_31 hf
  unfold f_X11_sure_31 at hf
  refine lv_aload_n hx hb dX11_sure_31 rfl (lv_at hl 0 rfl) ?_
  refine rg_p hC hw 0 (Nat.le_of_ble_eq_true rfl) rfl fd_X11_6 wf_X11_58 (q := 39) rfl dX11_sure_32 ?_
  obtain ⟨z8, ez8, hf⟩ := sq_e hf
  have mz8 : M.2.2 ≤ z8.2.2 := mo_X10_clear ez8.symm
  refine clc_Vv hC hw (c_X10_clear ez8.symm) hd_X10_clear cw_X11_313 (Nat.le_of_ble_eq_true rfl) rfl rfl (rest := []) hl.1 rfl (Nat.le_of_ble_eq_true rfl) ⟨Nat.le_of_ble_eq_true rfl, Nat.le_of_ble_eq_true rfl⟩ ⟨(show 2 * (M.2.2 - c0) ≤ 2 * (z.2.2.2 - c0) by omega), (show 52 * (M.2.2 - c0) ≤ 52 * (z.2.2.2 - c0) by omega)⟩ rfl dX11_sure_35 (fun H locs hw => ?_)
  refine lv_iconst (v := 0) hx hb dX11_sure_38 (by decide) ?_
  refine lv_istore (lv' := [(4, .int 0), (0, .ref (ad 0)), (1, .int x1), (2, .int x2), (3, .int x3)]) hx hb dX11_sure_39 hl (by decide) rfl (fun ls hl => ?_)
  refine W.widen (k := 2 * (z8.2.2 - c0)) (n := 52 * (z8.2.2 - c0)) (by omega) (by omega) ?_
  exact k_X11_sure_41l hC fu_ _ _ _ _ _ _ _ _ _ (by omega) hf hw (lv_sub hl [1, 2, 3, 4, 0] rfl)
set_option maxRecDepth 100000 in
set_option maxHeartbeats 4000000 in
theorem k_X11_sure {p : Program} {l : Launch} {e : Env} {s : State} {m : MethodId} {args : Array Value} {below : List Frame} {meth : Method} {c : Code} {D : va_G} {cy : Nat → ClassId} {z0 : Nat} {ad : Nat → Nat} {X : va_W} {u : Nat × Nat} (hC : cx_C p s m args meth c cX11_sure "RhymedThen" (Cond.code yX11_sure cX11_sure 5 (some .int)) 5 (some .int)) {z : (Int32 × mm_M)} {c0 : Nat} {x1 : Int32} {x2 : Int32} {x3 : Int32} {M : mm_M} (hc0 : c0 ≤ M.2.2) (hf : f_X11_sure x1 x2 x3 M = some z) {H : Heap} {locs : List Loc} (hw : wd_in cx_T D cy z0 ad u M X s H locs) {ls : Array Slot} (hl : lv_has ls 5 [(0, .ref (ad 0)), (1, .int x1), (2, .int x2), (3, .int x3)]) : W p l e { frames := 8, cells := 2 * (z.2.2.2 - c0), slots := 52 * (z.2.2.2 - c0), locals := 238 } s m args below meth c H locs (2 * (M.2.2 - c0)) (52 * (M.2.2 - c0)) (MQ below (aq_i cx_T D cy z0 ad X z.1 z.2) args s (2 * (z.2.2.2 - c0)) (52 * (z.2.2.2 - c0)) (fun q => z0 ≤ q)) (F0 m 0 ls []) := by
  have hx := hC.1
  have hb := hC.2.1
  have hmz : M.2.2 ≤ z.2.2.2 := mo_X11_sure hf
  unfold f_X11_sure at hf
  refine lv_aload_n hx hb dX11_sure_0 rfl (lv_at hl 0 rfl) ?_
  refine lv_iload_n hx hb dX11_sure_1 rfl (lv_at hl 1 rfl) ?_
  obtain ⟨z1, ez1, hf⟩ := sq_e hf
  refine clc_Vi hC hw (c_X11_isWord ez1.symm) hd_X11_isWord cw_X11_185 (Nat.le_of_ble_eq_true rfl) rfl rfl (rest := []) hl.1 rfl (Nat.le_of_ble_eq_true rfl) ⟨Nat.le_of_ble_eq_true rfl, Nat.le_of_ble_eq_true rfl⟩ ⟨(show 2 * (M.2.2 - c0) ≤ 2 * (z.2.2.2 - c0) by omega), (show 52 * (M.2.2 - c0) ≤ 52 * (z.2.2.2 - c0) by omega)⟩ rfl dX11_sure_2 (fun H locs hw => ?_)
  refine lv_if_eq (tgt := 22) hx hb dX11_sure_5 (by decide) (fun c2 => ?_) (fun c2 => ?_)
  · rw [if_pos c2] at hf
    refine lv_iconst (v := (-1)) hx hb dX11_sure_22 (by decide) ?_
    refine W.widen (k := 2 * (z.2.2.2 - c0)) (n := 52 * (z.2.2.2 - c0)) (by omega) (by omega) ?_
    have hz := Option.some.inj hf
    subst hz
    exact rta_i hC hw dX11_sure_23
  · rw [if_neg c2] at hf
    refine lv_iload_n hx hb dX11_sure_8 rfl (lv_at hl 2 rfl) ?_
    obtain ⟨z3, ez3, hf⟩ := sq_e hf
    refine clc_Si hC hw (c_X11_isYear ez3.symm) hd_X11_isYear cw_X11_257 (rest := []) hl.1 rfl (Nat.le_of_ble_eq_true rfl) ⟨Nat.le_of_ble_eq_true rfl, Nat.le_of_ble_eq_true rfl⟩ ⟨(show 2 * (M.2.2 - c0) ≤ 2 * (z.2.2.2 - c0) by omega), (show 52 * (M.2.2 - c0) ≤ 52 * (z.2.2.2 - c0) by omega)⟩ rfl dX11_sure_9 (fun H locs hw => ?_)
    refine lv_if_eq (tgt := 22) hx hb dX11_sure_12 (by decide) (fun c4 => ?_) (fun c4 => ?_)
    · rw [if_pos c4] at hf
      refine lv_iconst (v := (-1)) hx hb dX11_sure_22 (by decide) ?_
      refine W.widen (k := 2 * (z.2.2.2 - c0)) (n := 52 * (z.2.2.2 - c0)) (by omega) (by omega) ?_
      have hz := Option.some.inj hf
      subst hz
      exact rta_i hC hw dX11_sure_23
    · rw [if_neg c4] at hf
      refine lv_iload_n hx hb dX11_sure_15 rfl (lv_at hl 3 rfl) ?_
      obtain ⟨z5, ez5, hf⟩ := sq_e hf
      refine clc_Si hC hw (c_X11_isPlace ez5.symm) hd_X11_isPlace cw_X11_163 (rest := []) hl.1 rfl (Nat.le_of_ble_eq_true rfl) ⟨Nat.le_of_ble_eq_true rfl, Nat.le_of_ble_eq_true rfl⟩ ⟨(show 2 * (M.2.2 - c0) ≤ 2 * (z.2.2.2 - c0) by omega), (show 52 * (M.2.2 - c0) ≤ 52 * (z.2.2.2 - c0) by omega)⟩ rfl dX11_sure_16 (fun H locs hw => ?_)
      refine lv_if_ne (tgt := 24) hx hb dX11_sure_19 (by decide) (fun c6 => ?_) (fun c6 => ?_)
      · rw [if_neg c6] at hf
        refine lv_aload_n hx hb dX11_sure_24 rfl (lv_at hl 0 rfl) ?_
        refine rg_p hC hw 0 (Nat.le_of_ble_eq_true rfl) rfl fd_X11_4 wf_X11_44 (q := 19) rfl dX11_sure_25 ?_
        obtain ⟨z7, ez7, hf⟩ := bd_e hf
        have mz7 : M.2.2 ≤ z7.2.2 := mo_X6_lookAnew ez7
        have hnz : z7.2.2 ≤ z.2.2.2 := mo_X11_sure_31 hf
        refine cla_Vv hC hw (c_X6_lookAnew ez7) hd_X6_lookAnew cw_X11_286 (Nat.le_of_ble_eq_true rfl) rfl rfl (rest := []) hl.1 rfl (Nat.le_of_ble_eq_true rfl) ⟨Nat.le_of_ble_eq_true rfl, Nat.le_of_ble_eq_true rfl⟩ ⟨(show 2 * (M.2.2 - c0) + 2 * (z7.2.2 - M.2.2) ≤ 2 * (z.2.2.2 - c0) by omega), (show 52 * (M.2.2 - c0) + 52 * (z7.2.2 - M.2.2) ≤ 52 * (z.2.2.2 - c0) by omega)⟩ rfl dX11_sure_28 (fun u H locs hw => ?_)
        refine W.widen (k := 2 * (z7.2.2 - c0)) (n := 52 * (z7.2.2 - c0)) (by omega) (by omega) ?_
        exact k_X11_sure_31 hC (by omega) hf hw (lv_sub hl [0, 1, 2, 3] rfl)
      · rw [if_pos c6] at hf
        refine lv_iconst (v := (-1)) hx hb dX11_sure_22 (by decide) ?_
        refine W.widen (k := 2 * (z.2.2.2 - c0)) (n := 52 * (z.2.2.2 - c0)) (by omega) (by omega) ?_
        have hz := Option.some.inj hf
        subst hz
        exact rta_i hC hw dX11_sure_23
set_option maxRecDepth 100000 in
theorem c_X11_sure {l : Launch} {D : va_G} {cy : Nat → ClassId} {z0 : Nat} {ad : Nat → Nat} {u : Nat × Nat} {X : va_W} {z : (Int32 × mm_M)} {x1 : Int32} {x2 : Int32} {x3 : Int32} {M : mm_M} (hf : f_X11_sure x1 x2 x3 M = some z) : ca_i cx_T l yX11_sure (Cond.code yX11_sure cX11_sure 5 (some .int)) 8 238 D cy z0 ad u M X [.ref (ad 0), .int x1, .int x2, .int x3] z.1 z.2 := by
  refine bga_i (by decide) (fun p e s m below meth c hC hw => ?_)
  refine en_t (Nat.le_of_ble_eq_true rfl) (fun ls hl => ?_)
  have hl : lv_has ls 5 [(0, .ref (ad 0)), (1, .int x1), (2, .int x2), (3, .int x3)] := hl
  refine W.widen (k := 2 * (M.2.2 - M.2.2)) (n := 52 * (M.2.2 - M.2.2)) (by omega) (by omega) ?_
  exact k_X11_sure hC (Nat.le_refl _) hf hw hl
set_option maxRecDepth 100000 in
set_option maxHeartbeats 4000000 in
theorem k_X6_allAreSoAmong_82 {p : Program} {l : Launch} {e : Env} {s : State} {m : MethodId} {args : Array Value} {below : List Frame} {meth : Method} {c : Code} {D : va_G} {cy : Nat → ClassId} {z0 : Nat} {ad : Nat → Nat} {X : va_W} {u : Nat × Nat} (hC : cx_C p s m args meth c cX6_allAreSoAmong "RhymedThen$Signs" (Cond.code yX6_allAreSoAmong cX6_allAreSoAmong 6 (some .boolean)) 6 (some .boolean)) {z : (Int32 × mm_M)} {c0 : Nat} {x1 : Int32} {x2 : Int32} {x3 : Int32} {x4 : Int32} {M : mm_M} (hc0 : c0 ≤ M.2.2) {q3 : Int32 → Int32 → Int32 → Int32 → mm_M → Option (Int32 × mm_M)} (hq3 : ∀ (x1 : Int32) (x2 : Int32) (x3 : Int32) (x4 : Int32) (M : mm_M) (u : Nat × Nat) (H : Heap) (locs : List Loc) (ls : Array Slot), c0 ≤ M.2.2 → q3 x1 x2 x3 x4 M = some z → wd_in cx_T D cy z0 ad u M X s H locs → lv_has ls 6 [(0, .ref (ad 19)), (1, .int x1), (2, .int x2), (3, .int x3), (4, .int x4)] → W p l e { frames := 6, cells := 2 * (z.2.2.2 - c0), slots := 52 * (z.2.2.2 - c0), locals := 192 } s m args below meth c H locs (2 * (M.2.2 - c0)) (52 * (M.2.2 - c0)) (MQ below (aq_i cx_T D cy z0 ad X z.1 z.2) args s (2 * (z.2.2.2 - c0)) (52 * (z.2.2.2 - c0)) (fun q => z0 ≤ q)) (F0 m 3 ls [])) (hm3 : ∀ (x1 : Int32) (x2 : Int32) (x3 : Int32) (x4 : Int32) (M : mm_M), q3 x1 x2 x3 x4 M = some z → M.2.2 ≤ z.2.2.2) (hf : f_X6_allAreSoAmong_82 q3 x1 x2 x3 x4 M = some z) {H : Heap} {locs : List Loc} (hw : wd_in cx_T D cy z0 ad u M X s H locs) {ls : Array Slot} (hl : lv_has ls 6 [(0, .ref (ad 19)), (1, .int x1), (2, .int x2), (3, .int x3), (4, .int x4)]) : W p l e { frames := 6, cells := 2 * (z.2.2.2 - c0), slots := 52 * (z.2.2.2 - c0), locals := 192 } s m args below meth c H locs (2 * (M.2.2 - c0)) (52 * (M.2.2 - c0)) (MQ below (aq_i cx_T D cy z0 ad X z.1 z.2) args s (2 * (z.2.2.2 - c0)) (52 * (z.2.2.2 - c0)) (fun q => z0 ≤ q)) (F0 m 82 ls []) := by
  have hx := hC.1
  have hb := hC.2.1
  have hmz : M.2.2 ≤ z.2.2.2 := mo_X6_allAreSoAmong_82 hm3 hf
  unfold f_X6_allAreSoAmong_82 at hf
  obtain ⟨y9, ey9, hf⟩ := sq_e hf
  refine lv_iinc (v := y9) (lv' := [(4, .int y9), (0, .ref (ad 19)), (1, .int x1), (2, .int x2), (3, .int x3)]) hx hb dX6_allAreSoAmong_82 hl (k := 4) rfl (by rw [ey9]; rfl) (by decide) rfl (fun ls hl => ?_)
  refine lv_goto (tgt := 3) hx hb dX6_allAreSoAmong_85 (by decide) ?_
  refine W.widen (k := 2 * (M.2.2 - c0)) (n := 52 * (M.2.2 - c0)) (by omega) (by omega) ?_
  exact hq3 _ _ _ _ _ _ _ _ _ (by omega) hf hw (lv_sub hl [1, 2, 3, 4, 0] rfl)
set_option maxRecDepth 100000 in
set_option maxHeartbeats 4000000 in
theorem k_X6_allAreSoAmong_70 {p : Program} {l : Launch} {e : Env} {s : State} {m : MethodId} {args : Array Value} {below : List Frame} {meth : Method} {c : Code} {D : va_G} {cy : Nat → ClassId} {z0 : Nat} {ad : Nat → Nat} {X : va_W} {u : Nat × Nat} (hC : cx_C p s m args meth c cX6_allAreSoAmong "RhymedThen$Signs" (Cond.code yX6_allAreSoAmong cX6_allAreSoAmong 6 (some .boolean)) 6 (some .boolean)) {z : (Int32 × mm_M)} {c0 : Nat} {x1 : Int32} {x2 : Int32} {x3 : Int32} {x4 : Int32} {ks0 : Nat} {t1 : Int32} {M : mm_M} (hks0 : sg_ok ks0) (hc0 : c0 ≤ M.2.2) {q3 : Int32 → Int32 → Int32 → Int32 → mm_M → Option (Int32 × mm_M)} (hq3 : ∀ (x1 : Int32) (x2 : Int32) (x3 : Int32) (x4 : Int32) (M : mm_M) (u : Nat × Nat) (H : Heap) (locs : List Loc) (ls : Array Slot), c0 ≤ M.2.2 → q3 x1 x2 x3 x4 M = some z → wd_in cx_T D cy z0 ad u M X s H locs → lv_has ls 6 [(0, .ref (ad 19)), (1, .int x1), (2, .int x2), (3, .int x3), (4, .int x4)] → W p l e { frames := 6, cells := 2 * (z.2.2.2 - c0), slots := 52 * (z.2.2.2 - c0), locals := 192 } s m args below meth c H locs (2 * (M.2.2 - c0)) (52 * (M.2.2 - c0)) (MQ below (aq_i cx_T D cy z0 ad X z.1 z.2) args s (2 * (z.2.2.2 - c0)) (52 * (z.2.2.2 - c0)) (fun q => z0 ≤ q)) (F0 m 3 ls [])) (hm3 : ∀ (x1 : Int32) (x2 : Int32) (x3 : Int32) (x4 : Int32) (M : mm_M), q3 x1 x2 x3 x4 M = some z → M.2.2 ≤ z.2.2.2) (hf : f_X6_allAreSoAmong_70 q3 x1 x2 x3 x4 ks0 t1 M = some z) {H : Heap} {locs : List Loc} (hw : wd_in cx_T D cy z0 ad u M X s H locs) {ls : Array Slot} (hl : lv_has ls 6 [(0, .ref (ad 19)), (1, .int x1), (2, .int x2), (3, .int x3), (4, .int x4)]) : W p l e { frames := 6, cells := 2 * (z.2.2.2 - c0), slots := 52 * (z.2.2.2 - c0), locals := 192 } s m args below meth c H locs (2 * (M.2.2 - c0)) (52 * (M.2.2 - c0)) (MQ below (aq_i cx_T D cy z0 ad X z.1 z.2) args s (2 * (z.2.2.2 - c0)) (52 * (z.2.2.2 - c0)) (fun q => z0 ≤ q)) (F0 m 70 ls [.int t1, .ref (ad ks0)]) := by
  have hx := hC.1
  have hb := hC.2.1
  have hmz : M.2.2 ≤ z.2.2.2 := mo_X6_allAreSoAmong_70 hm3 hf
  unfold f_X6_allAreSoAmong_70 at hf
  refine lv_aload_n hx hb dX6_allAreSoAmong_70 rfl (lv_at hl 0 rfl) ?_
  refine rg_p hC hw 19 (Nat.le_of_ble_eq_true rfl) rfl fd_X6_0 wf_X6_31 (q := 5) rfl dX6_allAreSoAmong_71 ?_
  obtain ⟨z10, ez10, hf⟩ := bd_e hf
  refine clc_Vi hC hw (c_X5_isSoOn hks0 ez10) hd_X5_isSoOn cw_X6_66 (sg_lt hks0) (sg_kd hks0) rfl (rest := []) hl.1 rfl (Nat.le_of_ble_eq_true rfl) ⟨Nat.le_of_ble_eq_true rfl, Nat.le_of_ble_eq_true rfl⟩ ⟨(show 2 * (M.2.2 - c0) ≤ 2 * (z.2.2.2 - c0) by omega), (show 52 * (M.2.2 - c0) ≤ 52 * (z.2.2.2 - c0) by omega)⟩ rfl dX6_allAreSoAmong_74 (fun H locs hw => ?_)
  refine lv_if_ne (tgt := 82) hx hb dX6_allAreSoAmong_77 (by decide) (fun c11 => ?_) (fun c11 => ?_)
  · rw [if_neg c11] at hf
    refine W.widen (k := 2 * (M.2.2 - c0)) (n := 52 * (M.2.2 - c0)) (by omega) (by omega) ?_
    exact k_X6_allAreSoAmong_82 hC (by omega) hq3 hm3 hf hw (lv_sub hl [0, 1, 2, 3, 4] rfl)
  · rw [if_pos c11] at hf
    refine lv_iconst (v := 0) hx hb dX6_allAreSoAmong_80 (by decide) ?_
    refine W.widen (k := 2 * (z.2.2.2 - c0)) (n := 52 * (z.2.2.2 - c0)) (by omega) (by omega) ?_
    have hz := Option.some.inj hf
    subst hz
    exact rta_z hC hw (Or.inl rfl) dX6_allAreSoAmong_81
set_option maxRecDepth 100000 in
set_option maxHeartbeats 4000000 in
theorem k_X6_allAreSoAmong_3 {p : Program} {l : Launch} {e : Env} {s : State} {m : MethodId} {args : Array Value} {below : List Frame} {meth : Method} {c : Code} {D : va_G} {cy : Nat → ClassId} {z0 : Nat} {ad : Nat → Nat} {X : va_W} {u : Nat × Nat} (hC : cx_C p s m args meth c cX6_allAreSoAmong "RhymedThen$Signs" (Cond.code yX6_allAreSoAmong cX6_allAreSoAmong 6 (some .boolean)) 6 (some .boolean)) {z : (Int32 × mm_M)} {c0 : Nat} {x1 : Int32} {x2 : Int32} {x3 : Int32} {x4 : Int32} {M : mm_M} (hc0 : c0 ≤ M.2.2) {q3 : Int32 → Int32 → Int32 → Int32 → mm_M → Option (Int32 × mm_M)} (hq3 : ∀ (x1 : Int32) (x2 : Int32) (x3 : Int32) (x4 : Int32) (M : mm_M) (u : Nat × Nat) (H : Heap) (locs : List Loc) (ls : Array Slot), c0 ≤ M.2.2 → q3 x1 x2 x3 x4 M = some z → wd_in cx_T D cy z0 ad u M X s H locs → lv_has ls 6 [(0, .ref (ad 19)), (1, .int x1), (2, .int x2), (3, .int x3), (4, .int x4)] → W p l e { frames := 6, cells := 2 * (z.2.2.2 - c0), slots := 52 * (z.2.2.2 - c0), locals := 192 } s m args below meth c H locs (2 * (M.2.2 - c0)) (52 * (M.2.2 - c0)) (MQ below (aq_i cx_T D cy z0 ad X z.1 z.2) args s (2 * (z.2.2.2 - c0)) (52 * (z.2.2.2 - c0)) (fun q => z0 ≤ q)) (F0 m 3 ls [])) (hm3 : ∀ (x1 : Int32) (x2 : Int32) (x3 : Int32) (x4 : Int32) (M : mm_M), q3 x1 x2 x3 x4 M = some z → M.2.2 ≤ z.2.2.2) (hf : f_X6_allAreSoAmong_3 q3 x1 x2 x3 x4 M = some z) {H : Heap} {locs : List Loc} (hw : wd_in cx_T D cy z0 ad u M X s H locs) {ls : Array Slot} (hl : lv_has ls 6 [(0, .ref (ad 19)), (1, .int x1), (2, .int x2), (3, .int x3), (4, .int x4)]) : W p l e { frames := 6, cells := 2 * (z.2.2.2 - c0), slots := 52 * (z.2.2.2 - c0), locals := 192 } s m args below meth c H locs (2 * (M.2.2 - c0)) (52 * (M.2.2 - c0)) (MQ below (aq_i cx_T D cy z0 ad X z.1 z.2) args s (2 * (z.2.2.2 - c0)) (52 * (z.2.2.2 - c0)) (fun q => z0 ≤ q)) (F0 m 3 ls []) := by
  have hx := hC.1
  have hb := hC.2.1
  have hmz : M.2.2 ≤ z.2.2.2 := mo_X6_allAreSoAmong_3 hm3 hf
  unfold f_X6_allAreSoAmong_3 at hf
  refine lv_iload hx hb dX6_allAreSoAmong_3 (lv_at hl 4 rfl) ?_
  refine lv_aload_n hx hb dX6_allAreSoAmong_5 rfl (lv_at hl 0 rfl) ?_
  refine rg_i hC hw 19 (Nat.le_of_ble_eq_true rfl) rfl fd_X6_3 wf_X6_17 dX6_allAreSoAmong_6 ?_
  refine lv_icmp_ge (tgt := 88) hx hb dX6_allAreSoAmong_9 (by decide) (fun c1 => ?_) (fun c1 => ?_)
  · rw [if_pos c1] at hf
    refine lv_iconst (v := 1) hx hb dX6_allAreSoAmong_88 (by decide) ?_
    refine W.widen (k := 2 * (z.2.2.2 - c0)) (n := 52 * (z.2.2.2 - c0)) (by omega) (by omega) ?_
    have hz := Option.some.inj hf
    subst hz
    exact rta_z hC hw (Or.inr rfl) dX6_allAreSoAmong_89
  · rw [if_neg c1] at hf
    refine lv_iload_n hx hb dX6_allAreSoAmong_12 rfl (lv_at hl 1 rfl) ?_
    refine lv_iload hx hb dX6_allAreSoAmong_13 (lv_at hl 4 rfl) ?_
    refine lv_ishr hx hb dX6_allAreSoAmong_15 ?_
    refine lv_iconst (v := 1) hx hb dX6_allAreSoAmong_16 (by decide) ?_
    refine lv_iand hx hb dX6_allAreSoAmong_17 ?_
    refine lv_if_eq (tgt := 82) hx hb dX6_allAreSoAmong_18 (by decide) (fun c2 => ?_) (fun c2 => ?_)
    · rw [if_pos c2] at hf
      refine W.widen (k := 2 * (M.2.2 - c0)) (n := 52 * (M.2.2 - c0)) (by omega) (by omega) ?_
      exact k_X6_allAreSoAmong_82 hC (by omega) hq3 hm3 hf hw (lv_sub hl [0, 1, 2, 3, 4] rfl)
    · rw [if_neg c2] at hf
      refine lv_aload_n hx hb dX6_allAreSoAmong_21 rfl (lv_at hl 0 rfl) ?_
      refine rg_p hC hw 19 (Nat.le_of_ble_eq_true rfl) rfl fd_X6_2 wf_X6_11 (q := 20) rfl dX6_allAreSoAmong_22 ?_
      refine lv_iload hx hb dX6_allAreSoAmong_25 (lv_at hl 4 rfl) ?_
      obtain ⟨h3, hf⟩ := ck_e hf
      refine ra_S hC hw 20 (Nat.le_of_ble_eq_true rfl) rfl h3 dX6_allAreSoAmong_27 ?_
      refine rg_i hC hw (22 + x4.toNatClampNeg) (sg_lt (sg_ix h3)) (sg_kd (sg_ix h3)) fd_X5_4 wf_X6_51 dX6_allAreSoAmong_28 ?_
      refine lv_aload_n hx hb dX6_allAreSoAmong_31 rfl (lv_at hl 0 rfl) ?_
      refine rg_p hC hw 19 (Nat.le_of_ble_eq_true rfl) rfl fd_X6_1 wf_X6_35 (q := 14) rfl dX6_allAreSoAmong_32 ?_
      refine rg_p hC hw 14 (Nat.le_of_ble_eq_true rfl) rfl fd_X3_1 wf_X6_54 (q := 15) rfl dX6_allAreSoAmong_35 ?_
      refine lv_aload_n hx hb dX6_allAreSoAmong_38 rfl (lv_at hl 0 rfl) ?_
      refine rg_p hC hw 19 (Nat.le_of_ble_eq_true rfl) rfl fd_X6_2 wf_X6_11 (q := 20) rfl dX6_allAreSoAmong_39 ?_
      refine lv_iload hx hb dX6_allAreSoAmong_42 (lv_at hl 4 rfl) ?_
      obtain ⟨h4, hf⟩ := ck_e hf
      refine ra_S hC hw 20 (Nat.le_of_ble_eq_true rfl) rfl h4 dX6_allAreSoAmong_44 ?_
      refine rg_i hC hw (22 + x4.toNatClampNeg) (sg_lt (sg_ix h4)) (sg_kd (sg_ix h4)) fd_X5_5 wf_X6_44 dX6_allAreSoAmong_45 ?_
      obtain ⟨h5, hf⟩ := ck_e hf
      refine ra_i hC hw 15 (Nat.le_of_ble_eq_true rfl) rfl h5 dX6_allAreSoAmong_48 ?_
      refine lv_isub hx hb dX6_allAreSoAmong_49 ?_
      obtain ⟨y6, ey6, hf⟩ := sq_e hf
      refine lt_i ey6 ?_
      refine lv_istore (lv' := [(5, .int y6), (0, .ref (ad 19)), (1, .int x1), (2, .int x2), (3, .int x3), (4, .int x4)]) hx hb dX6_allAreSoAmong_50 hl (by decide) rfl (fun ls hl => ?_)
      refine lv_aload_n hx hb dX6_allAreSoAmong_52 rfl (lv_at hl 1 rfl) ?_
      refine rg_p hC hw 19 (Nat.le_of_ble_eq_true rfl) rfl fd_X6_2 wf_X6_11 (q := 20) rfl dX6_allAreSoAmong_53 ?_
      refine lv_iload hx hb dX6_allAreSoAmong_56 (lv_at hl 5 rfl) ?_
      obtain ⟨h7, hf⟩ := ck_e hf
      refine ra_S hC hw 20 (Nat.le_of_ble_eq_true rfl) rfl h7 dX6_allAreSoAmong_58 ?_
      refine lv_aload_n hx hb dX6_allAreSoAmong_59 rfl (lv_at hl 1 rfl) ?_
      refine rg_p hC hw 19 (Nat.le_of_ble_eq_true rfl) rfl fd_X6_1 wf_X6_35 (q := 14) rfl dX6_allAreSoAmong_60 ?_
      refine lv_iload_n hx hb dX6_allAreSoAmong_63 rfl (lv_at hl 3 rfl) ?_
      refine lv_iload hx hb dX6_allAreSoAmong_64 (lv_at hl 0 rfl) ?_
      refine lv_iload_n hx hb dX6_allAreSoAmong_66 rfl (lv_at hl 4 rfl) ?_
      obtain ⟨z8, ez8, hf⟩ := bd_e hf
      have mz8 : M.2.2 ≤ z8.2.2.2 := mo_X3_courseAmong ez8
      have hnz : z8.2.2.2 ≤ z.2.2.2 := mo_X6_allAreSoAmong_70 hm3 hf
      refine cla_Vi hC hw (c_X3_courseAmong ez8) hd_X3_courseAmong cw_X6_62 (Nat.le_of_ble_eq_true rfl) rfl rfl (rest := [.ref (ad (22 + x4.toNatClampNeg))]) hl.1 rfl (Nat.le_of_ble_eq_true rfl) ⟨Nat.le_of_ble_eq_true rfl, Nat.le_of_ble_eq_true rfl⟩ ⟨(show 2 * (M.2.2 - c0) + 2 * (z8.2.2.2 - M.2.2) ≤ 2 * (z.2.2.2 - c0) by omega), (show 52 * (M.2.2 - c0) + 52 * (z8.2.2.2 - M.2.2) ≤ 52 * (z.2.2.2 - c0) by omega)⟩ rfl dX6_allAreSoAmong_67 (fun u H locs hw => ?_)
      refine W.widen (k := 2 * (z8.2.2.2 - c0)) (n := 52 * (z8.2.2.2 - c0)) (by omega) (by omega) ?_
      exact k_X6_allAreSoAmong_70 hC (sg_ix h7) (by omega) hq3 hm3 hf hw (lv_sub hl [1, 2, 3, 4, 5] rfl)
set_option maxRecDepth 100000 in
set_option maxHeartbeats 4000000 in
theorem k_X6_allAreSoAmong_3l {p : Program} {l : Launch} {e : Env} {s : State} {m : MethodId} {args : Array Value} {below : List Frame} {meth : Method} {c : Code} {D : va_G} {cy : Nat → ClassId} {z0 : Nat} {ad : Nat → Nat} {X : va_W} (hC : cx_C p s m args meth c cX6_allAreSoAmong "RhymedThen$Signs" (Cond.code yX6_allAreSoAmong cX6_allAreSoAmong 6 (some .boolean)) 6 (some .boolean)) {z : (Int32 × mm_M)} {c0 : Nat} : ∀ (n : Nat) (x1 : Int32) (x2 : Int32) (x3 : Int32) (x4 : Int32) (M : mm_M) (u : Nat × Nat) (H : Heap) (locs : List Loc) (ls : Array Slot), c0 ≤ M.2.2 → f_X6_allAreSoAmong_3l n x1 x2 x3 x4 M = some z → wd_in cx_T D cy z0 ad u M X s H locs → lv_has ls 6 [(0, .ref (ad 19)), (1, .int x1), (2, .int x2), (3, .int x3), (4, .int x4)] → W p l e { frames := 6, cells := 2 * (z.2.2.2 - c0), slots := 52 * (z.2.2.2 - c0), locals := 192 } s m args below meth c H locs (2 * (M.2.2 - c0)) (52 * (M.2.2 - c0)) (MQ below (aq_i cx_T D cy z0 ad X z.1 z.2) args s (2 * (z.2.2.2 - c0)) (52 * (z.2.2.2 - c0)) (fun q => z0 ≤ q)) (F0 m 3 ls []) := by
  intro n
  induction n with
  | zero => intro x1 x2 x3 x4 M u H locs ls hc0 hf; exact absurd hf (by simp [f_X6_allAreSoAmong_3l])
  | succ n ih => intro x1 x2 x3 x4 M u H locs ls hc0 hf hw hl; exact k_X6_allAreSoAmong_3 hC hc0 ih (mo_X6_allAreSoAmong_3l n) hf hw hl
set_option maxRecDepth 100000 in
set_option maxHeartbeats 4000000 in
theorem k_X6_allAreSoAmong {p : Program} {l : Launch} {e : Env} {s : State} {m : MethodId} {args : Array Value} {below : List Frame} {meth : Method} {c : Code} {D : va_G} {cy : Nat → ClassId} {z0 : Nat} {ad : Nat → Nat} {X : va_W} {u : Nat × Nat} (hC : cx_C p s m args meth c cX6_allAreSoAmong "RhymedThen$Signs" (Cond.code yX6_allAreSoAmong cX6_allAreSoAmong 6 (some .boolean)) 6 (some .boolean)) {z : (Int32 × mm_M)} {c0 : Nat} {x1 : Int32} {x2 : Int32} {x3 : Int32} {M : mm_M} (hc0 : c0 ≤ M.2.2) (hf : f_X6_allAreSoAmong x1 x2 x3 M = some z) {H : Heap} {locs : List Loc} (hw : wd_in cx_T D cy z0 ad u M X s H locs) {ls : Array Slot} (hl : lv_has ls 6 [(0, .ref (ad 19)), (1, .int x1), (2, .int x2), (3, .int x3)]) : W p l e { frames := 6, cells := 2 * (z.2.2.2 - c0), slots := 52 * (z.2.2.2 - c0), locals := 192 } s m args below meth c H locs (2 * (M.2.2 - c0)) (52 * (M.2.2 - c0)) (MQ below (aq_i cx_T D cy z0 ad X z.1 z.2) args s (2 * (z.2.2.2 - c0)) (52 * (z.2.2.2 - c0)) (fun q => z0 ≤ q)) (F0 m 0 ls []) := by
  have hx := hC.1
  have hb := hC.2.1
  have hmz : M.2.2 ≤ z.2.2.2 := mo_X6_allAreSoAmong hf
  unfold f_X6_allAreSoAmong at hf
  refine lv_iconst (v := 0) hx hb dX6_allAreSoAmong_0 (by decide) ?_
  refine lv_istore (lv' := [(4, .int 0), (0, .ref (ad 19)), (1, .int x1), (2, .int x2), (3, .int x3)]) hx hb dX6_allAreSoAmong_1 hl (by decide) rfl (fun ls hl => ?_)
  refine W.widen (k := 2 * (M.2.2 - c0)) (n := 52 * (M.2.2 - c0)) (by omega) (by omega) ?_
  exact k_X6_allAreSoAmong_3l hC fu_ _ _ _ _ _ _ _ _ _ (by omega) hf hw (lv_sub hl [1, 2, 3, 4, 0] rfl)
set_option maxRecDepth 100000 in
theorem c_X6_allAreSoAmong {l : Launch} {D : va_G} {cy : Nat → ClassId} {z0 : Nat} {ad : Nat → Nat} {u : Nat × Nat} {X : va_W} {z : (Int32 × mm_M)} {x1 : Int32} {x2 : Int32} {x3 : Int32} {M : mm_M} (hf : f_X6_allAreSoAmong x1 x2 x3 M = some z) : ca_i cx_T l yX6_allAreSoAmong (Cond.code yX6_allAreSoAmong cX6_allAreSoAmong 6 (some .boolean)) 6 192 D cy z0 ad u M X [.ref (ad 19), .int x1, .int x2, .int x3] z.1 z.2 := by
  refine bga_i (by decide) (fun p e s m below meth c hC hw => ?_)
  refine en_t (Nat.le_of_ble_eq_true rfl) (fun ls hl => ?_)
  have hl : lv_has ls 6 [(0, .ref (ad 19)), (1, .int x1), (2, .int x2), (3, .int x3)] := hl
  refine W.widen (k := 2 * (M.2.2 - M.2.2)) (n := 52 * (M.2.2 - M.2.2)) (by omega) (by omega) ?_
  exact k_X6_allAreSoAmong hC (Nat.le_refl _) hf hw hl
set_option maxRecDepth 100000 in
set_option maxHeartbeats 4000000 in
theorem k_X11_shows_105 {p : Program} {l : Launch} {e : Env} {s : State} {m : MethodId} {args : Array Value} {below : List Frame} {meth : Method} {c : Code} {D : va_G} {cy : Nat → ClassId} {z0 : Nat} {ad : Nat → Nat} {X : va_W} {u : Nat × Nat} (hC : cx_C p s m args meth c cX11_shows "RhymedThen" (Cond.code yX11_shows cX11_shows 8 (some .int)) 8 (some .int)) {z : (Int32 × mm_M)} {c0 : Nat} {x2 : Int32} {x3 : Int32} {x4 : Int32} {x5 : Int32} {x6 : Int32} {M : mm_M} (hc0 : c0 ≤ M.2.2) {q58 : Int32 → Int32 → Int32 → Int32 → Int32 → mm_M → Option (Int32 × mm_M)} (hq58 : ∀ (x2 : Int32) (x3 : Int32) (x4 : Int32) (x5 : Int32) (x6 : Int32) (M : mm_M) (u : Nat × Nat) (H : Heap) (locs : List Loc) (ls : Array Slot), c0 ≤ M.2.2 → q58 x2 x3 x4 x5 x6 M = some z → wd_in cx_T D cy z0 ad u M X s H locs → lv_has ls 8 [(0, .ref (ad 0)), (2, .int x2), (3, .int x3), (4, .int x4), (5, .int x5), (6, .int x6)] → W p l e { frames := 8, cells := 2 * (z.2.2.2 - c0), slots := 52 * (z.2.2.2 - c0), locals := 238 } s m args below meth c H locs (2 * (M.2.2 - c0)) (52 * (M.2.2 - c0)) (MQ below (aq_i cx_T D cy z0 ad X z.1 z.2) args s (2 * (z.2.2.2 - c0)) (52 * (z.2.2.2 - c0)) (fun q => z0 ≤ q)) (F0 m 58 ls [])) (hm58 : ∀ (x2 : Int32) (x3 : Int32) (x4 : Int32) (x5 : Int32) (x6 : Int32) (M : mm_M), q58 x2 x3 x4 x5 x6 M = some z → M.2.2 ≤ z.2.2.2) (hf : f_X11_shows_105 q58 x2 x3 x4 x5 x6 M = some z) {H : Heap} {locs : List Loc} (hw : wd_in cx_T D cy z0 ad u M X s H locs) {ls : Array Slot} (hl : lv_has ls 8 [(0, .ref (ad 0)), (2, .int x2), (3, .int x3), (4, .int x4), (5, .int x5), (6, .int x6)]) : W p l e { frames := 8, cells := 2 * (z.2.2.2 - c0), slots := 52 * (z.2.2.2 - c0), locals := 238 } s m args below meth c H locs (2 * (M.2.2 - c0)) (52 * (M.2.2 - c0)) (MQ below (aq_i cx_T D cy z0 ad X z.1 z.2) args s (2 * (z.2.2.2 - c0)) (52 * (z.2.2.2 - c0)) (fun q => z0 ≤ q)) (F0 m 105 ls []) := by
  have hx := hC.1
  have hb := hC.2.1
  have hmz : M.2.2 ≤ z.2.2.2 := mo_X11_shows_105 hm58 hf
  unfold f_X11_shows_105 at hf
  obtain ⟨y13, ey13, hf⟩ := sq_e hf
  refine lv_iinc (v := y13) (lv' := [(6, .int y13), (0, .ref (ad 0)), (2, .int x2), (3, .int x3), (4, .int x4), (5, .int x5)]) hx hb dX11_shows_105 hl (k := 5) rfl (by rw [ey13]; rfl) (by decide) rfl (fun ls hl => ?_)
  refine lv_goto (tgt := 58) hx hb dX11_shows_108 (by decide) ?_
  refine W.widen (k := 2 * (M.2.2 - c0)) (n := 52 * (M.2.2 - c0)) (by omega) (by omega) ?_
  exact hq58 _ _ _ _ _ _ _ _ _ _ (by omega) hf hw (lv_sub hl [1, 2, 3, 4, 5, 0] rfl)
set_option maxRecDepth 100000 in
set_option maxHeartbeats 4000000 in
theorem k_X11_shows_95 {p : Program} {l : Launch} {e : Env} {s : State} {m : MethodId} {args : Array Value} {below : List Frame} {meth : Method} {c : Code} {D : va_G} {cy : Nat → ClassId} {z0 : Nat} {ad : Nat → Nat} {X : va_W} {u : Nat × Nat} (hC : cx_C p s m args meth c cX11_shows "RhymedThen" (Cond.code yX11_shows cX11_shows 8 (some .int)) 8 (some .int)) {z : (Int32 × mm_M)} {c0 : Nat} {x2 : Int32} {x3 : Int32} {x4 : Int32} {x5 : Int32} {x6 : Int32} {x7 : Int32} {t0 : Int32} {M : mm_M} (hc0 : c0 ≤ M.2.2) {q58 : Int32 → Int32 → Int32 → Int32 → Int32 → mm_M → Option (Int32 × mm_M)} (hq58 : ∀ (x2 : Int32) (x3 : Int32) (x4 : Int32) (x5 : Int32) (x6 : Int32) (M : mm_M) (u : Nat × Nat) (H : Heap) (locs : List Loc) (ls : Array Slot), c0 ≤ M.2.2 → q58 x2 x3 x4 x5 x6 M = some z → wd_in cx_T D cy z0 ad u M X s H locs → lv_has ls 8 [(0, .ref (ad 0)), (2, .int x2), (3, .int x3), (4, .int x4), (5, .int x5), (6, .int x6)] → W p l e { frames := 8, cells := 2 * (z.2.2.2 - c0), slots := 52 * (z.2.2.2 - c0), locals := 238 } s m args below meth c H locs (2 * (M.2.2 - c0)) (52 * (M.2.2 - c0)) (MQ below (aq_i cx_T D cy z0 ad X z.1 z.2) args s (2 * (z.2.2.2 - c0)) (52 * (z.2.2.2 - c0)) (fun q => z0 ≤ q)) (F0 m 58 ls [])) (hm58 : ∀ (x2 : Int32) (x3 : Int32) (x4 : Int32) (x5 : Int32) (x6 : Int32) (M : mm_M), q58 x2 x3 x4 x5 x6 M = some z → M.2.2 ≤ z.2.2.2) (hf : f_X11_shows_95 q58 x2 x3 x4 x5 x6 x7 t0 M = some z) {H : Heap} {locs : List Loc} (hw : wd_in cx_T D cy z0 ad u M X s H locs) {ls : Array Slot} (hl : lv_has ls 8 [(0, .ref (ad 0)), (2, .int x2), (3, .int x3), (4, .int x4), (5, .int x5), (6, .int x6), (7, .int x7)]) : W p l e { frames := 8, cells := 2 * (z.2.2.2 - c0), slots := 52 * (z.2.2.2 - c0), locals := 238 } s m args below meth c H locs (2 * (M.2.2 - c0)) (52 * (M.2.2 - c0)) (MQ below (aq_i cx_T D cy z0 ad X z.1 z.2) args s (2 * (z.2.2.2 - c0)) (52 * (z.2.2.2 - c0)) (fun q => z0 ≤ q)) (F0 m 95 ls [.int t0]) := by
  have hx := hC.1
  have hb := hC.2.1
  have hmz : M.2.2 ≤ z.2.2.2 := mo_X11_shows_95 hm58 hf
  unfold f_X11_shows_95 at hf
  refine lv_if_ne (tgt := 105) hx hb dX11_shows_95 (by decide) (fun c14 => ?_) (fun c14 => ?_)
  · rw [if_neg c14] at hf
    refine W.widen (k := 2 * (M.2.2 - c0)) (n := 52 * (M.2.2 - c0)) (by omega) (by omega) ?_
    exact k_X11_shows_105 hC (by omega) hq58 hm58 hf hw (lv_sub hl [0, 1, 2, 3, 4, 5] rfl)
  · rw [if_pos c14] at hf
    refine lv_iload hx hb dX11_shows_98 (lv_at hl 4 rfl) ?_
    refine lv_iload hx hb dX11_shows_100 (lv_at hl 6 rfl) ?_
    refine lv_ior hx hb dX11_shows_102 ?_
    obtain ⟨y15, ey15, hf⟩ := sq_e hf
    refine lt_i ey15 ?_
    refine lv_istore (lv' := [(5, .int y15), (0, .ref (ad 0)), (2, .int x2), (3, .int x3), (4, .int x4), (6, .int x6), (7, .int x7)]) hx hb dX11_shows_103 hl (by decide) rfl (fun ls hl => ?_)
    refine W.widen (k := 2 * (M.2.2 - c0)) (n := 52 * (M.2.2 - c0)) (by omega) (by omega) ?_
    exact k_X11_shows_105 hC (by omega) hq58 hm58 hf hw (lv_sub hl [1, 2, 3, 4, 0, 5] rfl)
set_option maxRecDepth 100000 in
set_option maxHeartbeats 4000000 in
theorem k_X11_shows_58 {p : Program} {l : Launch} {e : Env} {s : State} {m : MethodId} {args : Array Value} {below : List Frame} {meth : Method} {c : Code} {D : va_G} {cy : Nat → ClassId} {z0 : Nat} {ad : Nat → Nat} {X : va_W} {u : Nat × Nat} (hC : cx_C p s m args meth c cX11_shows "RhymedThen" (Cond.code yX11_shows cX11_shows 8 (some .int)) 8 (some .int)) {z : (Int32 × mm_M)} {c0 : Nat} {x2 : Int32} {x3 : Int32} {x4 : Int32} {x5 : Int32} {x6 : Int32} {M : mm_M} (hc0 : c0 ≤ M.2.2) {q58 : Int32 → Int32 → Int32 → Int32 → Int32 → mm_M → Option (Int32 × mm_M)} (hq58 : ∀ (x2 : Int32) (x3 : Int32) (x4 : Int32) (x5 : Int32) (x6 : Int32) (M : mm_M) (u : Nat × Nat) (H : Heap) (locs : List Loc) (ls : Array Slot), c0 ≤ M.2.2 → q58 x2 x3 x4 x5 x6 M = some z → wd_in cx_T D cy z0 ad u M X s H locs → lv_has ls 8 [(0, .ref (ad 0)), (2, .int x2), (3, .int x3), (4, .int x4), (5, .int x5), (6, .int x6)] → W p l e { frames := 8, cells := 2 * (z.2.2.2 - c0), slots := 52 * (z.2.2.2 - c0), locals := 238 } s m args below meth c H locs (2 * (M.2.2 - c0)) (52 * (M.2.2 - c0)) (MQ below (aq_i cx_T D cy z0 ad X z.1 z.2) args s (2 * (z.2.2.2 - c0)) (52 * (z.2.2.2 - c0)) (fun q => z0 ≤ q)) (F0 m 58 ls [])) (hm58 : ∀ (x2 : Int32) (x3 : Int32) (x4 : Int32) (x5 : Int32) (x6 : Int32) (M : mm_M), q58 x2 x3 x4 x5 x6 M = some z → M.2.2 ≤ z.2.2.2) (hf : f_X11_shows_58 q58 x2 x3 x4 x5 x6 M = some z) {H : Heap} {locs : List Loc} (hw : wd_in cx_T D cy z0 ad u M X s H locs) {ls : Array Slot} (hl : lv_has ls 8 [(0, .ref (ad 0)), (2, .int x2), (3, .int x3), (4, .int x4), (5, .int x5), (6, .int x6)]) : W p l e { frames := 8, cells := 2 * (z.2.2.2 - c0), slots := 52 * (z.2.2.2 - c0), locals := 238 } s m args below meth c H locs (2 * (M.2.2 - c0)) (52 * (M.2.2 - c0)) (MQ below (aq_i cx_T D cy z0 ad X z.1 z.2) args s (2 * (z.2.2.2 - c0)) (52 * (z.2.2.2 - c0)) (fun q => z0 ≤ q)) (F0 m 58 ls []) := by
  have hx := hC.1
  have hb := hC.2.1
  have hmz : M.2.2 ≤ z.2.2.2 := mo_X11_shows_58 hm58 hf
  unfold f_X11_shows_58 at hf
  refine lv_iload hx hb dX11_shows_58 (lv_at hl 5 rfl) ?_
  refine lv_aload_n hx hb dX11_shows_60 rfl (lv_at hl 0 rfl) ?_
  refine rg_p hC hw 0 (Nat.le_of_ble_eq_true rfl) rfl fd_X11_4 wf_X11_44 (q := 19) rfl dX11_shows_61 ?_
  refine rg_i hC hw 19 (Nat.le_of_ble_eq_true rfl) rfl fd_X6_3 wf_X11_251 dX11_shows_64 ?_
  refine lv_icmp_ge (tgt := 111) hx hb dX11_shows_67 (by decide) (fun c9 => ?_) (fun c9 => ?_)
  · rw [if_pos c9] at hf
    refine lv_iload hx hb dX11_shows_111 (lv_at hl 4 rfl) ?_
    refine W.widen (k := 2 * (z.2.2.2 - c0)) (n := 52 * (z.2.2.2 - c0)) (by omega) (by omega) ?_
    have hz := Option.some.inj hf
    subst hz
    exact rta_i hC hw dX11_shows_113
  · rw [if_neg c9] at hf
    refine lv_iload_n hx hb dX11_shows_70 rfl (lv_at hl 2 rfl) ?_
    refine lv_iconst (v := 1) hx hb dX11_shows_71 (by decide) ?_
    refine lv_iload hx hb dX11_shows_72 (lv_at hl 5 rfl) ?_
    refine lv_ishl hx hb dX11_shows_74 ?_
    refine lv_iand hx hb dX11_shows_75 ?_
    obtain ⟨y10, ey10, hf⟩ := sq_e hf
    refine lt_i ey10 ?_
    refine lv_istore (lv' := [(7, .int y10), (0, .ref (ad 0)), (2, .int x2), (3, .int x3), (4, .int x4), (5, .int x5), (6, .int x6)]) hx hb dX11_shows_76 hl (by decide) rfl (fun ls hl => ?_)
    refine lv_iload hx hb dX11_shows_78 (lv_at hl 0 rfl) ?_
    refine lv_if_eq (tgt := 105) hx hb dX11_shows_80 (by decide) (fun c11 => ?_) (fun c11 => ?_)
    · rw [if_pos c11] at hf
      refine W.widen (k := 2 * (M.2.2 - c0)) (n := 52 * (M.2.2 - c0)) (by omega) (by omega) ?_
      exact k_X11_shows_105 hC (by omega) hq58 hm58 hf hw (lv_sub hl [1, 2, 3, 4, 5, 6] rfl)
    · rw [if_neg c11] at hf
      refine lv_aload_n hx hb dX11_shows_83 rfl (lv_at hl 1 rfl) ?_
      refine rg_p hC hw 0 (Nat.le_of_ble_eq_true rfl) rfl fd_X11_4 wf_X11_44 (q := 19) rfl dX11_shows_84 ?_
      refine lv_iload hx hb dX11_shows_87 (lv_at hl 0 rfl) ?_
      refine lv_iload_n hx hb dX11_shows_89 rfl (lv_at hl 2 rfl) ?_
      refine lv_iload hx hb dX11_shows_90 (lv_at hl 4 rfl) ?_
      obtain ⟨z12, ez12, hf⟩ := bd_e hf
      have mz12 : M.2.2 ≤ z12.2.2.2 := mo_X6_allAreSoAmong ez12
      have hnz : z12.2.2.2 ≤ z.2.2.2 := mo_X11_shows_95 hm58 hf
      refine cla_Vi hC hw (c_X6_allAreSoAmong ez12) hd_X6_allAreSoAmong cw_X11_323 (Nat.le_of_ble_eq_true rfl) rfl rfl (rest := []) hl.1 rfl (Nat.le_of_ble_eq_true rfl) ⟨Nat.le_of_ble_eq_true rfl, Nat.le_of_ble_eq_true rfl⟩ ⟨(show 2 * (M.2.2 - c0) + 2 * (z12.2.2.2 - M.2.2) ≤ 2 * (z.2.2.2 - c0) by omega), (show 52 * (M.2.2 - c0) + 52 * (z12.2.2.2 - M.2.2) ≤ 52 * (z.2.2.2 - c0) by omega)⟩ rfl dX11_shows_92 (fun u H locs hw => ?_)
      refine W.widen (k := 2 * (z12.2.2.2 - c0)) (n := 52 * (z12.2.2.2 - c0)) (by omega) (by omega) ?_
      exact k_X11_shows_95 hC (by omega) hq58 hm58 hf hw (lv_sub hl [1, 2, 3, 4, 5, 6, 0] rfl)
set_option maxRecDepth 100000 in
set_option maxHeartbeats 4000000 in
theorem k_X11_shows_58l {p : Program} {l : Launch} {e : Env} {s : State} {m : MethodId} {args : Array Value} {below : List Frame} {meth : Method} {c : Code} {D : va_G} {cy : Nat → ClassId} {z0 : Nat} {ad : Nat → Nat} {X : va_W} (hC : cx_C p s m args meth c cX11_shows "RhymedThen" (Cond.code yX11_shows cX11_shows 8 (some .int)) 8 (some .int)) {z : (Int32 × mm_M)} {c0 : Nat} : ∀ (n : Nat) (x2 : Int32) (x3 : Int32) (x4 : Int32) (x5 : Int32) (x6 : Int32) (M : mm_M) (u : Nat × Nat) (H : Heap) (locs : List Loc) (ls : Array Slot), c0 ≤ M.2.2 → f_X11_shows_58l n x2 x3 x4 x5 x6 M = some z → wd_in cx_T D cy z0 ad u M X s H locs → lv_has ls 8 [(0, .ref (ad 0)), (2, .int x2), (3, .int x3), (4, .int x4), (5, .int x5), (6, .int x6)] → W p l e { frames := 8, cells := 2 * (z.2.2.2 - c0), slots := 52 * (z.2.2.2 - c0), locals := 238 } s m args below meth c H locs (2 * (M.2.2 - c0)) (52 * (M.2.2 - c0)) (MQ below (aq_i cx_T D cy z0 ad X z.1 z.2) args s (2 * (z.2.2.2 - c0)) (52 * (z.2.2.2 - c0)) (fun q => z0 ≤ q)) (F0 m 58 ls []) := by
  intro n
  induction n with
  | zero => intro x2 x3 x4 x5 x6 M u H locs ls hc0 hf; exact absurd hf (by simp [f_X11_shows_58l])
  | succ n ih => intro x2 x3 x4 x5 x6 M u H locs ls hc0 hf hw hl; exact k_X11_shows_58 hC hc0 ih (mo_X11_shows_58l n) hf hw hl
set_option maxRecDepth 100000 in
set_option maxHeartbeats 4000000 in
theorem k_X11_shows_25 {p : Program} {l : Launch} {e : Env} {s : State} {m : MethodId} {args : Array Value} {below : List Frame} {meth : Method} {c : Code} {D : va_G} {cy : Nat → ClassId} {z0 : Nat} {ad : Nat → Nat} {X : va_W} {u : Nat × Nat} (hC : cx_C p s m args meth c cX11_shows "RhymedThen" (Cond.code yX11_shows cX11_shows 8 (some .int)) 8 (some .int)) {z : (Int32 × mm_M)} {c0 : Nat} {x1 : Int32} {x2 : Int32} {M : mm_M} (hc0 : c0 ≤ M.2.2) (hf : f_X11_shows_25 x1 x2 M = some z) {H : Heap} {locs : List Loc} (hw : wd_in cx_T D cy z0 ad u M X s H locs) {ls : Array Slot} (hl : lv_has ls 8 [(0, .ref (ad 0)), (1, .int x1), (2, .int x2)]) : W p l e { frames := 8, cells := 2 * (z.2.2.2 - c0), slots := 52 * (z.2.2.2 - c0), locals := 238 } s m args below meth c H locs (2 * (M.2.2 - c0)) (52 * (M.2.2 - c0)) (MQ below (aq_i cx_T D cy z0 ad X z.1 z.2) args s (2 * (z.2.2.2 - c0)) (52 * (z.2.2.2 - c0)) (fun q => z0 ≤ q)) (F0 m 25 ls []) := by
  have hx := hC.1
  have hb := hC.2.1
  have hmz : M.2.2 ≤ z.2.2.2 := mo_X11_shows_25 hf
  unfold f_X11_shows_25 at hf
  refine lv_aload_n hx hb dX11_shows_25 rfl (lv_at hl 0 rfl) ?_
  refine rg_p hC hw 0 (Nat.le_of_ble_eq_true rfl) rfl fd_X11_4 wf_X11_44 (q := 19) rfl dX11_shows_26 ?_
  refine rg_i hC hw 19 (Nat.le_of_ble_eq_true rfl) rfl fd_X6_4 wf_X11_283 dX11_shows_29 ?_
  refine lv_aload_n hx hb dX11_shows_32 rfl (lv_at hl 0 rfl) ?_
  refine rg_p hC hw 0 (Nat.le_of_ble_eq_true rfl) rfl fd_X11_4 wf_X11_44 (q := 19) rfl dX11_shows_33 ?_
  refine lv_iload_n hx hb dX11_shows_36 rfl (lv_at hl 2 rfl) ?_
  obtain ⟨z6, ez6, hf⟩ := bd_e hf
  refine clc_Vi hC hw (c_X6_heldBy ez6) hd_X6_heldBy cw_X11_289 (Nat.le_of_ble_eq_true rfl) rfl rfl (rest := [.int (M.1 19 4)]) hl.1 rfl (Nat.le_of_ble_eq_true rfl) ⟨Nat.le_of_ble_eq_true rfl, Nat.le_of_ble_eq_true rfl⟩ ⟨(show 2 * (M.2.2 - c0) ≤ 2 * (z.2.2.2 - c0) by omega), (show 52 * (M.2.2 - c0) ≤ 52 * (z.2.2.2 - c0) by omega)⟩ rfl dX11_shows_37 (fun H locs hw => ?_)
  refine lv_iand hx hb dX11_shows_40 ?_
  obtain ⟨y7, ey7, hf⟩ := sq_e hf
  refine lt_i ey7 ?_
  refine lv_istore_n (lv' := [(3, .int y7), (0, .ref (ad 0)), (1, .int x1), (2, .int x2)]) hx hb dX11_shows_41 rfl hl (by decide) rfl (fun ls hl => ?_)
  refine lv_bipush (v := 63) hx hb dX11_shows_42 (by decide) ?_
  refine lv_iconst (v := 1) hx hb dX11_shows_44 (by decide) ?_
  refine lv_iload_n hx hb dX11_shows_45 rfl (lv_at hl 2 rfl) ?_
  refine lv_ishl hx hb dX11_shows_46 ?_
  refine lv_iconst (v := (-1)) hx hb dX11_shows_47 (by decide) ?_
  refine lv_ixor hx hb dX11_shows_48 ?_
  refine lv_iand hx hb dX11_shows_49 ?_
  obtain ⟨y8, ey8, hf⟩ := sq_e hf
  refine lt_i ey8 ?_
  refine lv_istore (lv' := [(4, .int y8), (3, .int y7), (0, .ref (ad 0)), (1, .int x1), (2, .int x2)]) hx hb dX11_shows_50 hl (by decide) rfl (fun ls hl => ?_)
  refine lv_iconst (v := 0) hx hb dX11_shows_52 (by decide) ?_
  refine lv_istore (lv' := [(5, .int 0), (4, .int y8), (3, .int y7), (0, .ref (ad 0)), (1, .int x1), (2, .int x2)]) hx hb dX11_shows_53 hl (by decide) rfl (fun ls hl => ?_)
  refine lv_iconst (v := 0) hx hb dX11_shows_55 (by decide) ?_
  refine lv_istore (lv' := [(6, .int 0), (5, .int 0), (4, .int y8), (3, .int y7), (0, .ref (ad 0)), (1, .int x1), (2, .int x2)]) hx hb dX11_shows_56 hl (by decide) rfl (fun ls hl => ?_)
  refine W.widen (k := 2 * (M.2.2 - c0)) (n := 52 * (M.2.2 - c0)) (by omega) (by omega) ?_
  exact k_X11_shows_58l hC fu_ _ _ _ _ _ _ _ _ _ _ (by omega) hf hw (lv_sub hl [4, 6, 3, 2, 1, 0] rfl)
set_option maxRecDepth 100000 in
set_option maxHeartbeats 4000000 in
theorem k_X11_shows {p : Program} {l : Launch} {e : Env} {s : State} {m : MethodId} {args : Array Value} {below : List Frame} {meth : Method} {c : Code} {D : va_G} {cy : Nat → ClassId} {z0 : Nat} {ad : Nat → Nat} {X : va_W} {u : Nat × Nat} (hC : cx_C p s m args meth c cX11_shows "RhymedThen" (Cond.code yX11_shows cX11_shows 8 (some .int)) 8 (some .int)) {z : (Int32 × mm_M)} {c0 : Nat} {x1 : Int32} {x2 : Int32} {M : mm_M} (hc0 : c0 ≤ M.2.2) (hf : f_X11_shows x1 x2 M = some z) {H : Heap} {locs : List Loc} (hw : wd_in cx_T D cy z0 ad u M X s H locs) {ls : Array Slot} (hl : lv_has ls 8 [(0, .ref (ad 0)), (1, .int x1), (2, .int x2)]) : W p l e { frames := 8, cells := 2 * (z.2.2.2 - c0), slots := 52 * (z.2.2.2 - c0), locals := 238 } s m args below meth c H locs (2 * (M.2.2 - c0)) (52 * (M.2.2 - c0)) (MQ below (aq_i cx_T D cy z0 ad X z.1 z.2) args s (2 * (z.2.2.2 - c0)) (52 * (z.2.2.2 - c0)) (fun q => z0 ≤ q)) (F0 m 0 ls []) := by
  have hx := hC.1
  have hb := hC.2.1
  have hmz : M.2.2 ≤ z.2.2.2 := mo_X11_shows hf
  unfold f_X11_shows at hf
  refine lv_aload_n hx hb dX11_shows_0 rfl (lv_at hl 0 rfl) ?_
  refine lv_iload_n hx hb dX11_shows_1 rfl (lv_at hl 1 rfl) ?_
  obtain ⟨z1, ez1, hf⟩ := sq_e hf
  refine clc_Vi hC hw (c_X11_isLaw ez1.symm) hd_X11_isLaw cw_X11_235 (Nat.le_of_ble_eq_true rfl) rfl rfl (rest := []) hl.1 rfl (Nat.le_of_ble_eq_true rfl) ⟨Nat.le_of_ble_eq_true rfl, Nat.le_of_ble_eq_true rfl⟩ ⟨(show 2 * (M.2.2 - c0) ≤ 2 * (z.2.2.2 - c0) by omega), (show 52 * (M.2.2 - c0) ≤ 52 * (z.2.2.2 - c0) by omega)⟩ rfl dX11_shows_2 (fun H locs hw => ?_)
  refine lv_if_eq (tgt := 16) hx hb dX11_shows_5 (by decide) (fun c2 => ?_) (fun c2 => ?_)
  · rw [if_pos c2] at hf
    refine lv_iconst (v := (-1)) hx hb dX11_shows_16 (by decide) ?_
    refine W.widen (k := 2 * (z.2.2.2 - c0)) (n := 52 * (z.2.2.2 - c0)) (by omega) (by omega) ?_
    have hz := Option.some.inj hf
    subst hz
    exact rta_i hC hw dX11_shows_17
  · rw [if_neg c2] at hf
    refine lv_aload_n hx hb dX11_shows_8 rfl (lv_at hl 0 rfl) ?_
    refine lv_iload_n hx hb dX11_shows_9 rfl (lv_at hl 2 rfl) ?_
    obtain ⟨z3, ez3, hf⟩ := sq_e hf
    refine clc_Vi hC hw (c_X11_isHistory ez3.symm) hd_X11_isHistory cw_X11_218 (Nat.le_of_ble_eq_true rfl) rfl rfl (rest := []) hl.1 rfl (Nat.le_of_ble_eq_true rfl) ⟨Nat.le_of_ble_eq_true rfl, Nat.le_of_ble_eq_true rfl⟩ ⟨(show 2 * (M.2.2 - c0) ≤ 2 * (z.2.2.2 - c0) by omega), (show 52 * (M.2.2 - c0) ≤ 52 * (z.2.2.2 - c0) by omega)⟩ rfl dX11_shows_10 (fun H locs hw => ?_)
    refine lv_if_ne (tgt := 18) hx hb dX11_shows_13 (by decide) (fun c4 => ?_) (fun c4 => ?_)
    · rw [if_neg c4] at hf
      refine lv_aload_n hx hb dX11_shows_18 rfl (lv_at hl 0 rfl) ?_
      refine rg_p hC hw 0 (Nat.le_of_ble_eq_true rfl) rfl fd_X11_4 wf_X11_44 (q := 19) rfl dX11_shows_19 ?_
      obtain ⟨z5, ez5, hf⟩ := bd_e hf
      have mz5 : M.2.2 ≤ z5.2.2 := mo_X6_lookAnew ez5
      have hnz : z5.2.2 ≤ z.2.2.2 := mo_X11_shows_25 hf
      refine cla_Vv hC hw (c_X6_lookAnew ez5) hd_X6_lookAnew cw_X11_286 (Nat.le_of_ble_eq_true rfl) rfl rfl (rest := []) hl.1 rfl (Nat.le_of_ble_eq_true rfl) ⟨Nat.le_of_ble_eq_true rfl, Nat.le_of_ble_eq_true rfl⟩ ⟨(show 2 * (M.2.2 - c0) + 2 * (z5.2.2 - M.2.2) ≤ 2 * (z.2.2.2 - c0) by omega), (show 52 * (M.2.2 - c0) + 52 * (z5.2.2 - M.2.2) ≤ 52 * (z.2.2.2 - c0) by omega)⟩ rfl dX11_shows_22 (fun u H locs hw => ?_)
      refine W.widen (k := 2 * (z5.2.2 - c0)) (n := 52 * (z5.2.2 - c0)) (by omega) (by omega) ?_
      exact k_X11_shows_25 hC (by omega) hf hw (lv_sub hl [0, 1, 2] rfl)
    · rw [if_pos c4] at hf
      refine lv_iconst (v := (-1)) hx hb dX11_shows_16 (by decide) ?_
      refine W.widen (k := 2 * (z.2.2.2 - c0)) (n := 52 * (z.2.2.2 - c0)) (by omega) (by omega) ?_
      have hz := Option.some.inj hf
      subst hz
      exact rta_i hC hw dX11_shows_17
set_option maxRecDepth 100000 in
theorem c_X11_shows {l : Launch} {D : va_G} {cy : Nat → ClassId} {z0 : Nat} {ad : Nat → Nat} {u : Nat × Nat} {X : va_W} {z : (Int32 × mm_M)} {x1 : Int32} {x2 : Int32} {M : mm_M} (hf : f_X11_shows x1 x2 M = some z) : ca_i cx_T l yX11_shows (Cond.code yX11_shows cX11_shows 8 (some .int)) 8 238 D cy z0 ad u M X [.ref (ad 0), .int x1, .int x2] z.1 z.2 := by
  refine bga_i (by decide) (fun p e s m below meth c hC hw => ?_)
  refine en_t (Nat.le_of_ble_eq_true rfl) (fun ls hl => ?_)
  have hl : lv_has ls 8 [(0, .ref (ad 0)), (1, .int x1), (2, .int x2)] := hl
  refine W.widen (k := 2 * (M.2.2 - M.2.2)) (n := 52 * (M.2.2 - M.2.2)) (by omega) (by omega) ?_
  exact k_X11_shows hC (Nat.le_refl _) hf hw hl
set_option maxRecDepth 100000 in
set_option maxHeartbeats 4000000 in
theorem k_X3_isFirstBut_35 {p : Program} {l : Launch} {e : Env} {s : State} {m : MethodId} {args : Array Value} {below : List Frame} {meth : Method} {c : Code} {D : va_G} {cy : Nat → ClassId} {z0 : Nat} {ad : Nat → Nat} {X : va_W} {u : Nat × Nat} (hC : cx_C p s m args meth c cX3_isFirstBut "RhymedThen$Past" (Cond.code yX3_isFirstBut cX3_isFirstBut 4 (some .boolean)) 4 (some .boolean)) {z : Int32} {x1 : Int32} {x2 : Int32} {x3 : Int32} {M : mm_M} {q2 : Int32 → Int32 → Int32 → Option Int32} (hq2 : ∀ (x1 : Int32) (x2 : Int32) (x3 : Int32) (H : Heap) (locs : List Loc) (ls : Array Slot), q2 x1 x2 x3 = some z → wd_in cx_T D cy z0 ad u M X s H locs → lv_has ls 4 [(0, .ref (ad 14)), (1, .int x1), (2, .int x2), (3, .int x3)] → W p l e { frames := 3, cells := 0, slots := 0, locals := 67 } s m args below meth c H locs 0 0 (MQ below (cq_i cx_T D cy z0 ad u X z M) args s 0 0 (fun q => z0 ≤ q)) (F0 m 2 ls [])) (hf : f_X3_isFirstBut_35 q2 x1 x2 x3 M = some z) {H : Heap} {locs : List Loc} (hw : wd_in cx_T D cy z0 ad u M X s H locs) {ls : Array Slot} (hl : lv_has ls 4 [(0, .ref (ad 14)), (1, .int x1), (2, .int x2), (3, .int x3)]) : W p l e { frames := 3, cells := 0, slots := 0, locals := 67 } s m args below meth c H locs 0 0 (MQ below (cq_i cx_T D cy z0 ad u X z M) args s 0 0 (fun q => z0 ≤ q)) (F0 m 35 ls []) := by
  have hx := hC.1
  have hb := hC.2.1
  unfold f_X3_isFirstBut_35 at hf
  obtain ⟨y6, ey6, hf⟩ := sq_e hf
  refine lv_iinc (v := y6) (lv' := [(3, .int y6), (0, .ref (ad 14)), (1, .int x1), (2, .int x2)]) hx hb dX3_isFirstBut_35 hl (k := 3) rfl (by rw [ey6]; rfl) (by decide) rfl (fun ls hl => ?_)
  refine lv_goto (tgt := 2) hx hb dX3_isFirstBut_38 (by decide) ?_
  exact hq2 _ _ _ _ _ _ hf hw (lv_sub hl [1, 2, 3, 0] rfl)
set_option maxRecDepth 100000 in
set_option maxHeartbeats 4000000 in
theorem k_X3_isFirstBut_2 {p : Program} {l : Launch} {e : Env} {s : State} {m : MethodId} {args : Array Value} {below : List Frame} {meth : Method} {c : Code} {D : va_G} {cy : Nat → ClassId} {z0 : Nat} {ad : Nat → Nat} {X : va_W} {u : Nat × Nat} (hC : cx_C p s m args meth c cX3_isFirstBut "RhymedThen$Past" (Cond.code yX3_isFirstBut cX3_isFirstBut 4 (some .boolean)) 4 (some .boolean)) {z : Int32} {x1 : Int32} {x2 : Int32} {x3 : Int32} {M : mm_M} {q2 : Int32 → Int32 → Int32 → Option Int32} (hq2 : ∀ (x1 : Int32) (x2 : Int32) (x3 : Int32) (H : Heap) (locs : List Loc) (ls : Array Slot), q2 x1 x2 x3 = some z → wd_in cx_T D cy z0 ad u M X s H locs → lv_has ls 4 [(0, .ref (ad 14)), (1, .int x1), (2, .int x2), (3, .int x3)] → W p l e { frames := 3, cells := 0, slots := 0, locals := 67 } s m args below meth c H locs 0 0 (MQ below (cq_i cx_T D cy z0 ad u X z M) args s 0 0 (fun q => z0 ≤ q)) (F0 m 2 ls [])) (hf : f_X3_isFirstBut_2 q2 x1 x2 x3 M = some z) {H : Heap} {locs : List Loc} (hw : wd_in cx_T D cy z0 ad u M X s H locs) {ls : Array Slot} (hl : lv_has ls 4 [(0, .ref (ad 14)), (1, .int x1), (2, .int x2), (3, .int x3)]) : W p l e { frames := 3, cells := 0, slots := 0, locals := 67 } s m args below meth c H locs 0 0 (MQ below (cq_i cx_T D cy z0 ad u X z M) args s 0 0 (fun q => z0 ≤ q)) (F0 m 2 ls []) := by
  have hx := hC.1
  have hb := hC.2.1
  unfold f_X3_isFirstBut_2 at hf
  refine lv_iload_n hx hb dX3_isFirstBut_2 rfl (lv_at hl 3 rfl) ?_
  refine lv_aload_n hx hb dX3_isFirstBut_3 rfl (lv_at hl 0 rfl) ?_
  refine rg_i hC hw 14 (Nat.le_of_ble_eq_true rfl) rfl fd_X3_3 wf_X3_19 dX3_isFirstBut_4 ?_
  refine lv_icmp_ge (tgt := 41) hx hb dX3_isFirstBut_7 (by decide) (fun c1 => ?_) (fun c1 => ?_)
  · rw [if_pos c1] at hf
    refine lv_iconst (v := 1) hx hb dX3_isFirstBut_41 (by decide) ?_
    have hz := Option.some.inj hf
    subst hz
    exact rtc_z hC hw (Or.inr rfl) dX3_isFirstBut_42
  · rw [if_neg c1] at hf
    refine lv_iload_n hx hb dX3_isFirstBut_10 rfl (lv_at hl 2 rfl) ?_
    refine lv_iload_n hx hb dX3_isFirstBut_11 rfl (lv_at hl 3 rfl) ?_
    refine lv_ishr hx hb dX3_isFirstBut_12 ?_
    refine lv_iconst (v := 1) hx hb dX3_isFirstBut_13 (by decide) ?_
    refine lv_iand hx hb dX3_isFirstBut_14 ?_
    refine lv_if_ne (tgt := 35) hx hb dX3_isFirstBut_15 (by decide) (fun c2 => ?_) (fun c2 => ?_)
    · rw [if_neg c2] at hf
      exact k_X3_isFirstBut_35 hC hq2 hf hw (lv_sub hl [0, 1, 2, 3] rfl)
    · rw [if_pos c2] at hf
      refine lv_aload_n hx hb dX3_isFirstBut_18 rfl (lv_at hl 0 rfl) ?_
      refine lv_iload_n hx hb dX3_isFirstBut_19 rfl (lv_at hl 1 rfl) ?_
      refine lv_iload_n hx hb dX3_isFirstBut_20 rfl (lv_at hl 3 rfl) ?_
      obtain ⟨z3, ez3, hf⟩ := bd_e hf
      refine clc_Vi hC hw (c_X3_yearOf ez3) hd_X3_yearOf cw_X3_51 (Nat.le_of_ble_eq_true rfl) rfl rfl (rest := []) hl.1 rfl (Nat.le_of_ble_eq_true rfl) ⟨Nat.le_of_ble_eq_true rfl, Nat.le_of_ble_eq_true rfl⟩ ⟨Nat.zero_le _, Nat.zero_le _⟩ rfl dX3_isFirstBut_21 (fun H locs hw => ?_)
      refine lv_aload_n hx hb dX3_isFirstBut_24 rfl (lv_at hl 0 rfl) ?_
      refine rg_p hC hw 14 (Nat.le_of_ble_eq_true rfl) rfl fd_X3_6 wf_X3_29 (q := 18) rfl dX3_isFirstBut_25 ?_
      refine lv_iload_n hx hb dX3_isFirstBut_28 rfl (lv_at hl 3 rfl) ?_
      obtain ⟨h4, hf⟩ := ck_e hf
      refine ra_i hC hw 18 (Nat.le_of_ble_eq_true rfl) rfl h4 dX3_isFirstBut_29 ?_
      refine lv_icmp_eq (tgt := 35) hx hb dX3_isFirstBut_30 (by decide) (fun c5 => ?_) (fun c5 => ?_)
      · rw [if_pos c5] at hf
        exact k_X3_isFirstBut_35 hC hq2 hf hw (lv_sub hl [0, 1, 2, 3] rfl)
      · rw [if_neg c5] at hf
        refine lv_iconst (v := 0) hx hb dX3_isFirstBut_33 (by decide) ?_
        have hz := Option.some.inj hf
        subst hz
        exact rtc_z hC hw (Or.inl rfl) dX3_isFirstBut_34
set_option maxRecDepth 100000 in
set_option maxHeartbeats 4000000 in
theorem k_X3_isFirstBut_2l {p : Program} {l : Launch} {e : Env} {s : State} {m : MethodId} {args : Array Value} {below : List Frame} {meth : Method} {c : Code} {D : va_G} {cy : Nat → ClassId} {z0 : Nat} {ad : Nat → Nat} {X : va_W} {u : Nat × Nat} (hC : cx_C p s m args meth c cX3_isFirstBut "RhymedThen$Past" (Cond.code yX3_isFirstBut cX3_isFirstBut 4 (some .boolean)) 4 (some .boolean)) {z : Int32} {M : mm_M} : ∀ (n : Nat) (x1 : Int32) (x2 : Int32) (x3 : Int32) (H : Heap) (locs : List Loc) (ls : Array Slot), f_X3_isFirstBut_2l M n x1 x2 x3 = some z → wd_in cx_T D cy z0 ad u M X s H locs → lv_has ls 4 [(0, .ref (ad 14)), (1, .int x1), (2, .int x2), (3, .int x3)] → W p l e { frames := 3, cells := 0, slots := 0, locals := 67 } s m args below meth c H locs 0 0 (MQ below (cq_i cx_T D cy z0 ad u X z M) args s 0 0 (fun q => z0 ≤ q)) (F0 m 2 ls []) := by
  intro n
  induction n with
  | zero => intro x1 x2 x3 H locs ls hf; exact absurd hf (by simp [f_X3_isFirstBut_2l])
  | succ n ih => intro x1 x2 x3 H locs ls hf hw hl; exact k_X3_isFirstBut_2 hC ih hf hw hl
set_option maxRecDepth 100000 in
set_option maxHeartbeats 4000000 in
theorem k_X3_isFirstBut {p : Program} {l : Launch} {e : Env} {s : State} {m : MethodId} {args : Array Value} {below : List Frame} {meth : Method} {c : Code} {D : va_G} {cy : Nat → ClassId} {z0 : Nat} {ad : Nat → Nat} {X : va_W} {u : Nat × Nat} (hC : cx_C p s m args meth c cX3_isFirstBut "RhymedThen$Past" (Cond.code yX3_isFirstBut cX3_isFirstBut 4 (some .boolean)) 4 (some .boolean)) {z : Int32} {x1 : Int32} {x2 : Int32} {M : mm_M} (hf : f_X3_isFirstBut x1 x2 M = some z) {H : Heap} {locs : List Loc} (hw : wd_in cx_T D cy z0 ad u M X s H locs) {ls : Array Slot} (hl : lv_has ls 4 [(0, .ref (ad 14)), (1, .int x1), (2, .int x2)]) : W p l e { frames := 3, cells := 0, slots := 0, locals := 67 } s m args below meth c H locs 0 0 (MQ below (cq_i cx_T D cy z0 ad u X z M) args s 0 0 (fun q => z0 ≤ q)) (F0 m 0 ls []) := by
  have hx := hC.1
  have hb := hC.2.1
  unfold f_X3_isFirstBut at hf
  refine lv_iconst (v := 0) hx hb dX3_isFirstBut_0 (by decide) ?_
  refine lv_istore_n (lv' := [(3, .int 0), (0, .ref (ad 14)), (1, .int x1), (2, .int x2)]) hx hb dX3_isFirstBut_1 rfl hl (by decide) rfl (fun ls hl => ?_)
  exact k_X3_isFirstBut_2l hC fu_ _ _ _ _ _ _ hf hw (lv_sub hl [1, 2, 3, 0] rfl)
set_option maxRecDepth 100000 in
theorem c_X3_isFirstBut {l : Launch} {D : va_G} {cy : Nat → ClassId} {z0 : Nat} {ad : Nat → Nat} {u : Nat × Nat} {X : va_W} {z : Int32} {x1 : Int32} {x2 : Int32} {M : mm_M} (hf : f_X3_isFirstBut x1 x2 M = some z) : ct_i cx_T l yX3_isFirstBut (Cond.code yX3_isFirstBut cX3_isFirstBut 4 (some .boolean)) 3 67 D cy z0 ad u M X [.ref (ad 14), .int x1, .int x2] z M := by
  refine bgc_i (by decide) (fun p e s m below meth c hC hw => ?_)
  refine en_t (Nat.le_of_ble_eq_true rfl) (fun ls hl => ?_)
  have hl : lv_has ls 4 [(0, .ref (ad 14)), (1, .int x1), (2, .int x2)] := hl
  exact k_X3_isFirstBut hC hf hw hl
set_option maxRecDepth 100000 in
set_option maxHeartbeats 4000000 in
theorem k_X11_firstFittingAmong_46 {p : Program} {l : Launch} {e : Env} {s : State} {m : MethodId} {args : Array Value} {below : List Frame} {meth : Method} {c : Code} {D : va_G} {cy : Nat → ClassId} {z0 : Nat} {ad : Nat → Nat} {X : va_W} {u : Nat × Nat} (hC : cx_C p s m args meth c cX11_firstFittingAmong "RhymedThen" (Cond.code yX11_firstFittingAmong cX11_firstFittingAmong 3 (some .int)) 3 (some .int)) {z : (Int32 × mm_M)} {c0 : Nat} {x1 : Int32} {x2 : Int32} {M : mm_M} (hc0 : c0 ≤ M.2.2) {q2 : Int32 → Int32 → mm_M → Option (Int32 × mm_M)} (hq2 : ∀ (x1 : Int32) (x2 : Int32) (M : mm_M) (u : Nat × Nat) (H : Heap) (locs : List Loc) (ls : Array Slot), c0 ≤ M.2.2 → q2 x1 x2 M = some z → wd_in cx_T D cy z0 ad u M X s H locs → lv_has ls 3 [(0, .ref (ad 0)), (1, .int x1), (2, .int x2)] → W p l e { frames := 7, cells := 2 * (z.2.2.2 - c0), slots := 52 * (z.2.2.2 - c0), locals := 217 } s m args below meth c H locs (2 * (M.2.2 - c0)) (52 * (M.2.2 - c0)) (MQ below (aq_i cx_T D cy z0 ad X z.1 z.2) args s (2 * (z.2.2.2 - c0)) (52 * (z.2.2.2 - c0)) (fun q => z0 ≤ q)) (F0 m 2 ls [])) (hm2 : ∀ (x1 : Int32) (x2 : Int32) (M : mm_M), q2 x1 x2 M = some z → M.2.2 ≤ z.2.2.2) (hf : f_X11_firstFittingAmong_46 q2 x1 x2 M = some z) {H : Heap} {locs : List Loc} (hw : wd_in cx_T D cy z0 ad u M X s H locs) {ls : Array Slot} (hl : lv_has ls 3 [(0, .ref (ad 0)), (1, .int x1), (2, .int x2)]) : W p l e { frames := 7, cells := 2 * (z.2.2.2 - c0), slots := 52 * (z.2.2.2 - c0), locals := 217 } s m args below meth c H locs (2 * (M.2.2 - c0)) (52 * (M.2.2 - c0)) (MQ below (aq_i cx_T D cy z0 ad X z.1 z.2) args s (2 * (z.2.2.2 - c0)) (52 * (z.2.2.2 - c0)) (fun q => z0 ≤ q)) (F0 m 46 ls []) := by
  have hx := hC.1
  have hb := hC.2.1
  have hmz : M.2.2 ≤ z.2.2.2 := mo_X11_firstFittingAmong_46 hm2 hf
  unfold f_X11_firstFittingAmong_46 at hf
  obtain ⟨y5, ey5, hf⟩ := sq_e hf
  refine lv_iinc (v := y5) (lv' := [(2, .int y5), (0, .ref (ad 0)), (1, .int x1)]) hx hb dX11_firstFittingAmong_46 hl (k := 2) rfl (by rw [ey5]; rfl) (by decide) rfl (fun ls hl => ?_)
  refine lv_goto (tgt := 2) hx hb dX11_firstFittingAmong_49 (by decide) ?_
  refine W.widen (k := 2 * (M.2.2 - c0)) (n := 52 * (M.2.2 - c0)) (by omega) (by omega) ?_
  exact hq2 _ _ _ _ _ _ _ (by omega) hf hw (lv_sub hl [1, 2, 0] rfl)
set_option maxRecDepth 100000 in
set_option maxHeartbeats 4000000 in
theorem k_X11_firstFittingAmong_41 {p : Program} {l : Launch} {e : Env} {s : State} {m : MethodId} {args : Array Value} {below : List Frame} {meth : Method} {c : Code} {D : va_G} {cy : Nat → ClassId} {z0 : Nat} {ad : Nat → Nat} {X : va_W} {u : Nat × Nat} (hC : cx_C p s m args meth c cX11_firstFittingAmong "RhymedThen" (Cond.code yX11_firstFittingAmong cX11_firstFittingAmong 3 (some .int)) 3 (some .int)) {z : (Int32 × mm_M)} {c0 : Nat} {x1 : Int32} {x2 : Int32} {t0 : Int32} {M : mm_M} (hc0 : c0 ≤ M.2.2) {q2 : Int32 → Int32 → mm_M → Option (Int32 × mm_M)} (hq2 : ∀ (x1 : Int32) (x2 : Int32) (M : mm_M) (u : Nat × Nat) (H : Heap) (locs : List Loc) (ls : Array Slot), c0 ≤ M.2.2 → q2 x1 x2 M = some z → wd_in cx_T D cy z0 ad u M X s H locs → lv_has ls 3 [(0, .ref (ad 0)), (1, .int x1), (2, .int x2)] → W p l e { frames := 7, cells := 2 * (z.2.2.2 - c0), slots := 52 * (z.2.2.2 - c0), locals := 217 } s m args below meth c H locs (2 * (M.2.2 - c0)) (52 * (M.2.2 - c0)) (MQ below (aq_i cx_T D cy z0 ad X z.1 z.2) args s (2 * (z.2.2.2 - c0)) (52 * (z.2.2.2 - c0)) (fun q => z0 ≤ q)) (F0 m 2 ls [])) (hm2 : ∀ (x1 : Int32) (x2 : Int32) (M : mm_M), q2 x1 x2 M = some z → M.2.2 ≤ z.2.2.2) (hf : f_X11_firstFittingAmong_41 q2 x1 x2 t0 M = some z) {H : Heap} {locs : List Loc} (hw : wd_in cx_T D cy z0 ad u M X s H locs) {ls : Array Slot} (hl : lv_has ls 3 [(0, .ref (ad 0)), (1, .int x1), (2, .int x2)]) : W p l e { frames := 7, cells := 2 * (z.2.2.2 - c0), slots := 52 * (z.2.2.2 - c0), locals := 217 } s m args below meth c H locs (2 * (M.2.2 - c0)) (52 * (M.2.2 - c0)) (MQ below (aq_i cx_T D cy z0 ad X z.1 z.2) args s (2 * (z.2.2.2 - c0)) (52 * (z.2.2.2 - c0)) (fun q => z0 ≤ q)) (F0 m 41 ls [.int t0]) := by
  have hx := hC.1
  have hb := hC.2.1
  have hmz : M.2.2 ≤ z.2.2.2 := mo_X11_firstFittingAmong_41 hm2 hf
  unfold f_X11_firstFittingAmong_41 at hf
  refine lv_if_eq (tgt := 46) hx hb dX11_firstFittingAmong_41 (by decide) (fun c6 => ?_) (fun c6 => ?_)
  · rw [if_pos c6] at hf
    refine W.widen (k := 2 * (M.2.2 - c0)) (n := 52 * (M.2.2 - c0)) (by omega) (by omega) ?_
    exact k_X11_firstFittingAmong_46 hC (by omega) hq2 hm2 hf hw (lv_sub hl [0, 1, 2] rfl)
  · rw [if_neg c6] at hf
    refine lv_iload_n hx hb dX11_firstFittingAmong_44 rfl (lv_at hl 2 rfl) ?_
    refine W.widen (k := 2 * (z.2.2.2 - c0)) (n := 52 * (z.2.2.2 - c0)) (by omega) (by omega) ?_
    have hz := Option.some.inj hf
    subst hz
    exact rta_i hC hw dX11_firstFittingAmong_45
set_option maxRecDepth 100000 in
set_option maxHeartbeats 4000000 in
theorem k_X11_firstFittingAmong_2 {p : Program} {l : Launch} {e : Env} {s : State} {m : MethodId} {args : Array Value} {below : List Frame} {meth : Method} {c : Code} {D : va_G} {cy : Nat → ClassId} {z0 : Nat} {ad : Nat → Nat} {X : va_W} {u : Nat × Nat} (hC : cx_C p s m args meth c cX11_firstFittingAmong "RhymedThen" (Cond.code yX11_firstFittingAmong cX11_firstFittingAmong 3 (some .int)) 3 (some .int)) {z : (Int32 × mm_M)} {c0 : Nat} {x1 : Int32} {x2 : Int32} {M : mm_M} (hc0 : c0 ≤ M.2.2) {q2 : Int32 → Int32 → mm_M → Option (Int32 × mm_M)} (hq2 : ∀ (x1 : Int32) (x2 : Int32) (M : mm_M) (u : Nat × Nat) (H : Heap) (locs : List Loc) (ls : Array Slot), c0 ≤ M.2.2 → q2 x1 x2 M = some z → wd_in cx_T D cy z0 ad u M X s H locs → lv_has ls 3 [(0, .ref (ad 0)), (1, .int x1), (2, .int x2)] → W p l e { frames := 7, cells := 2 * (z.2.2.2 - c0), slots := 52 * (z.2.2.2 - c0), locals := 217 } s m args below meth c H locs (2 * (M.2.2 - c0)) (52 * (M.2.2 - c0)) (MQ below (aq_i cx_T D cy z0 ad X z.1 z.2) args s (2 * (z.2.2.2 - c0)) (52 * (z.2.2.2 - c0)) (fun q => z0 ≤ q)) (F0 m 2 ls [])) (hm2 : ∀ (x1 : Int32) (x2 : Int32) (M : mm_M), q2 x1 x2 M = some z → M.2.2 ≤ z.2.2.2) (hf : f_X11_firstFittingAmong_2 q2 x1 x2 M = some z) {H : Heap} {locs : List Loc} (hw : wd_in cx_T D cy z0 ad u M X s H locs) {ls : Array Slot} (hl : lv_has ls 3 [(0, .ref (ad 0)), (1, .int x1), (2, .int x2)]) : W p l e { frames := 7, cells := 2 * (z.2.2.2 - c0), slots := 52 * (z.2.2.2 - c0), locals := 217 } s m args below meth c H locs (2 * (M.2.2 - c0)) (52 * (M.2.2 - c0)) (MQ below (aq_i cx_T D cy z0 ad X z.1 z.2) args s (2 * (z.2.2.2 - c0)) (52 * (z.2.2.2 - c0)) (fun q => z0 ≤ q)) (F0 m 2 ls []) := by
  have hx := hC.1
  have hb := hC.2.1
  have hmz : M.2.2 ≤ z.2.2.2 := mo_X11_firstFittingAmong_2 hm2 hf
  unfold f_X11_firstFittingAmong_2 at hf
  refine lv_iload_n hx hb dX11_firstFittingAmong_2 rfl (lv_at hl 2 rfl) ?_
  refine lv_aload_n hx hb dX11_firstFittingAmong_3 rfl (lv_at hl 0 rfl) ?_
  refine rg_p hC hw 0 (Nat.le_of_ble_eq_true rfl) rfl fd_X11_3 wf_X11_35 (q := 14) rfl dX11_firstFittingAmong_4 ?_
  refine rg_i hC hw 14 (Nat.le_of_ble_eq_true rfl) rfl fd_X3_2 wf_X11_144 dX11_firstFittingAmong_7 ?_
  refine lv_icmp_ge (tgt := 52) hx hb dX11_firstFittingAmong_10 (by decide) (fun c1 => ?_) (fun c1 => ?_)
  · rw [if_pos c1] at hf
    refine lv_iconst (v := (-1)) hx hb dX11_firstFittingAmong_52 (by decide) ?_
    refine W.widen (k := 2 * (z.2.2.2 - c0)) (n := 52 * (z.2.2.2 - c0)) (by omega) (by omega) ?_
    have hz := Option.some.inj hf
    subst hz
    exact rta_i hC hw dX11_firstFittingAmong_53
  · rw [if_neg c1] at hf
    refine lv_aload_n hx hb dX11_firstFittingAmong_13 rfl (lv_at hl 0 rfl) ?_
    refine rg_p hC hw 0 (Nat.le_of_ble_eq_true rfl) rfl fd_X11_3 wf_X11_35 (q := 14) rfl dX11_firstFittingAmong_14 ?_
    refine lv_iload_n hx hb dX11_firstFittingAmong_17 rfl (lv_at hl 2 rfl) ?_
    refine lv_iload_n hx hb dX11_firstFittingAmong_18 rfl (lv_at hl 1 rfl) ?_
    obtain ⟨z2, ez2, hf⟩ := bd_e hf
    refine clc_Vi hC hw (c_X3_isFirstBut ez2) hd_X3_isFirstBut cw_X11_329 (Nat.le_of_ble_eq_true rfl) rfl rfl (rest := []) hl.1 rfl (Nat.le_of_ble_eq_true rfl) ⟨Nat.le_of_ble_eq_true rfl, Nat.le_of_ble_eq_true rfl⟩ ⟨(show 2 * (M.2.2 - c0) ≤ 2 * (z.2.2.2 - c0) by omega), (show 52 * (M.2.2 - c0) ≤ 52 * (z.2.2.2 - c0) by omega)⟩ rfl dX11_firstFittingAmong_19 (fun H locs hw => ?_)
    refine lv_if_eq (tgt := 46) hx hb dX11_firstFittingAmong_22 (by decide) (fun c3 => ?_) (fun c3 => ?_)
    · rw [if_pos c3] at hf
      refine W.widen (k := 2 * (M.2.2 - c0)) (n := 52 * (M.2.2 - c0)) (by omega) (by omega) ?_
      exact k_X11_firstFittingAmong_46 hC (by omega) hq2 hm2 hf hw (lv_sub hl [0, 1, 2] rfl)
    · rw [if_neg c3] at hf
      refine lv_aload_n hx hb dX11_firstFittingAmong_25 rfl (lv_at hl 0 rfl) ?_
      refine rg_p hC hw 0 (Nat.le_of_ble_eq_true rfl) rfl fd_X11_4 wf_X11_44 (q := 19) rfl dX11_firstFittingAmong_26 ?_
      refine lv_aload_n hx hb dX11_firstFittingAmong_29 rfl (lv_at hl 0 rfl) ?_
      refine rg_p hC hw 0 (Nat.le_of_ble_eq_true rfl) rfl fd_X11_4 wf_X11_44 (q := 19) rfl dX11_firstFittingAmong_30 ?_
      refine rg_i hC hw 19 (Nat.le_of_ble_eq_true rfl) rfl fd_X6_4 wf_X11_283 dX11_firstFittingAmong_33 ?_
      refine lv_iload_n hx hb dX11_firstFittingAmong_36 rfl (lv_at hl 2 rfl) ?_
      refine lv_iload_n hx hb dX11_firstFittingAmong_37 rfl (lv_at hl 1 rfl) ?_
      obtain ⟨z4, ez4, hf⟩ := bd_e hf
      have mz4 : M.2.2 ≤ z4.2.2.2 := mo_X6_allAreSoAmong ez4
      have hnz : z4.2.2.2 ≤ z.2.2.2 := mo_X11_firstFittingAmong_41 hm2 hf
      refine cla_Vi hC hw (c_X6_allAreSoAmong ez4) hd_X6_allAreSoAmong cw_X11_323 (Nat.le_of_ble_eq_true rfl) rfl rfl (rest := []) hl.1 rfl (Nat.le_of_ble_eq_true rfl) ⟨Nat.le_of_ble_eq_true rfl, Nat.le_of_ble_eq_true rfl⟩ ⟨(show 2 * (M.2.2 - c0) + 2 * (z4.2.2.2 - M.2.2) ≤ 2 * (z.2.2.2 - c0) by omega), (show 52 * (M.2.2 - c0) + 52 * (z4.2.2.2 - M.2.2) ≤ 52 * (z.2.2.2 - c0) by omega)⟩ rfl dX11_firstFittingAmong_38 (fun u H locs hw => ?_)
      refine W.widen (k := 2 * (z4.2.2.2 - c0)) (n := 52 * (z4.2.2.2 - c0)) (by omega) (by omega) ?_
      exact k_X11_firstFittingAmong_41 hC (by omega) hq2 hm2 hf hw (lv_sub hl [0, 1, 2] rfl)
set_option maxRecDepth 100000 in
set_option maxHeartbeats 4000000 in
theorem k_X11_firstFittingAmong_2l {p : Program} {l : Launch} {e : Env} {s : State} {m : MethodId} {args : Array Value} {below : List Frame} {meth : Method} {c : Code} {D : va_G} {cy : Nat → ClassId} {z0 : Nat} {ad : Nat → Nat} {X : va_W} (hC : cx_C p s m args meth c cX11_firstFittingAmong "RhymedThen" (Cond.code yX11_firstFittingAmong cX11_firstFittingAmong 3 (some .int)) 3 (some .int)) {z : (Int32 × mm_M)} {c0 : Nat} : ∀ (n : Nat) (x1 : Int32) (x2 : Int32) (M : mm_M) (u : Nat × Nat) (H : Heap) (locs : List Loc) (ls : Array Slot), c0 ≤ M.2.2 → f_X11_firstFittingAmong_2l n x1 x2 M = some z → wd_in cx_T D cy z0 ad u M X s H locs → lv_has ls 3 [(0, .ref (ad 0)), (1, .int x1), (2, .int x2)] → W p l e { frames := 7, cells := 2 * (z.2.2.2 - c0), slots := 52 * (z.2.2.2 - c0), locals := 217 } s m args below meth c H locs (2 * (M.2.2 - c0)) (52 * (M.2.2 - c0)) (MQ below (aq_i cx_T D cy z0 ad X z.1 z.2) args s (2 * (z.2.2.2 - c0)) (52 * (z.2.2.2 - c0)) (fun q => z0 ≤ q)) (F0 m 2 ls []) := by
  intro n
  induction n with
  | zero => intro x1 x2 M u H locs ls hc0 hf; exact absurd hf (by simp [f_X11_firstFittingAmong_2l])
  | succ n ih => intro x1 x2 M u H locs ls hc0 hf hw hl; exact k_X11_firstFittingAmong_2 hC hc0 ih (mo_X11_firstFittingAmong_2l n) hf hw hl
set_option maxRecDepth 100000 in
set_option maxHeartbeats 4000000 in
theorem k_X11_firstFittingAmong {p : Program} {l : Launch} {e : Env} {s : State} {m : MethodId} {args : Array Value} {below : List Frame} {meth : Method} {c : Code} {D : va_G} {cy : Nat → ClassId} {z0 : Nat} {ad : Nat → Nat} {X : va_W} {u : Nat × Nat} (hC : cx_C p s m args meth c cX11_firstFittingAmong "RhymedThen" (Cond.code yX11_firstFittingAmong cX11_firstFittingAmong 3 (some .int)) 3 (some .int)) {z : (Int32 × mm_M)} {c0 : Nat} {x1 : Int32} {M : mm_M} (hc0 : c0 ≤ M.2.2) (hf : f_X11_firstFittingAmong x1 M = some z) {H : Heap} {locs : List Loc} (hw : wd_in cx_T D cy z0 ad u M X s H locs) {ls : Array Slot} (hl : lv_has ls 3 [(0, .ref (ad 0)), (1, .int x1)]) : W p l e { frames := 7, cells := 2 * (z.2.2.2 - c0), slots := 52 * (z.2.2.2 - c0), locals := 217 } s m args below meth c H locs (2 * (M.2.2 - c0)) (52 * (M.2.2 - c0)) (MQ below (aq_i cx_T D cy z0 ad X z.1 z.2) args s (2 * (z.2.2.2 - c0)) (52 * (z.2.2.2 - c0)) (fun q => z0 ≤ q)) (F0 m 0 ls []) := by
  have hx := hC.1
  have hb := hC.2.1
  have hmz : M.2.2 ≤ z.2.2.2 := mo_X11_firstFittingAmong hf
  unfold f_X11_firstFittingAmong at hf
  refine lv_iconst (v := 0) hx hb dX11_firstFittingAmong_0 (by decide) ?_
  refine lv_istore_n (lv' := [(2, .int 0), (0, .ref (ad 0)), (1, .int x1)]) hx hb dX11_firstFittingAmong_1 rfl hl (by decide) rfl (fun ls hl => ?_)
  refine W.widen (k := 2 * (M.2.2 - c0)) (n := 52 * (M.2.2 - c0)) (by omega) (by omega) ?_
  exact k_X11_firstFittingAmong_2l hC fu_ _ _ _ _ _ _ _ (by omega) hf hw (lv_sub hl [1, 2, 0] rfl)
set_option maxRecDepth 100000 in
theorem c_X11_firstFittingAmong {l : Launch} {D : va_G} {cy : Nat → ClassId} {z0 : Nat} {ad : Nat → Nat} {u : Nat × Nat} {X : va_W} {z : (Int32 × mm_M)} {x1 : Int32} {M : mm_M} (hf : f_X11_firstFittingAmong x1 M = some z) : ca_i cx_T l yX11_firstFittingAmong (Cond.code yX11_firstFittingAmong cX11_firstFittingAmong 3 (some .int)) 7 217 D cy z0 ad u M X [.ref (ad 0), .int x1] z.1 z.2 := by
  refine bga_i (by decide) (fun p e s m below meth c hC hw => ?_)
  refine en_t (Nat.le_of_ble_eq_true rfl) (fun ls hl => ?_)
  have hl : lv_has ls 3 [(0, .ref (ad 0)), (1, .int x1)] := hl
  refine W.widen (k := 2 * (M.2.2 - M.2.2)) (n := 52 * (M.2.2 - M.2.2)) (by omega) (by omega) ?_
  exact k_X11_firstFittingAmong hC (Nat.le_refl _) hf hw hl
set_option maxRecDepth 100000 in
set_option maxHeartbeats 4000000 in
theorem k_X11_least_55 {p : Program} {l : Launch} {e : Env} {s : State} {m : MethodId} {args : Array Value} {below : List Frame} {meth : Method} {c : Code} {D : va_G} {cy : Nat → ClassId} {z0 : Nat} {ad : Nat → Nat} {X : va_W} {u : Nat × Nat} (hC : cx_C p s m args meth c cX11_least "RhymedThen" (Cond.code yX11_least cX11_least 5 (some .int)) 5 (some .int)) {z : (Int32 × mm_M)} {c0 : Nat} {x2 : Int32} {x3 : Int32} {x4 : Int32} {M : mm_M} (hc0 : c0 ≤ M.2.2) (hf : f_X11_least_55 x2 x3 x4 M = some z) {H : Heap} {locs : List Loc} (hw : wd_in cx_T D cy z0 ad u M X s H locs) {ls : Array Slot} (hl : lv_has ls 5 [(0, .ref (ad 0)), (2, .int x2), (3, .int x3), (4, .int x4)]) : W p l e { frames := 8, cells := 2 * (z.2.2.2 - c0), slots := 52 * (z.2.2.2 - c0), locals := 239 } s m args below meth c H locs (2 * (M.2.2 - c0)) (52 * (M.2.2 - c0)) (MQ below (aq_i cx_T D cy z0 ad X z.1 z.2) args s (2 * (z.2.2.2 - c0)) (52 * (z.2.2.2 - c0)) (fun q => z0 ≤ q)) (F0 m 55 ls []) := by
  have hx := hC.1
  have hb := hC.2.1
  have hmz : M.2.2 ≤ z.2.2.2 := mo_X11_least_55 hf
  unfold f_X11_least_55 at hf
  refine lv_aload_n hx hb dX11_least_55 rfl (lv_at hl 0 rfl) ?_
  refine rg_p hC hw 0 (Nat.le_of_ble_eq_true rfl) rfl fd_X11_1 wf_X11_19 (q := 3) rfl dX11_least_56 ?_
  obtain ⟨z10, ez10, hf⟩ := sq_e hf
  have mz10 : M.2.2 ≤ z10.2.2 := mo_X4_clear ez10.symm
  refine clc_Vv hC hw (c_X4_clear ez10.symm) hd_X4_clear cw_X11_192 (Nat.le_of_ble_eq_true rfl) rfl rfl (rest := []) hl.1 rfl (Nat.le_of_ble_eq_true rfl) ⟨Nat.le_of_ble_eq_true rfl, Nat.le_of_ble_eq_true rfl⟩ ⟨(show 2 * (M.2.2 - c0) ≤ 2 * (z.2.2.2 - c0) by omega), (show 52 * (M.2.2 - c0) ≤ 52 * (z.2.2.2 - c0) by omega)⟩ rfl dX11_least_59 (fun H locs hw => ?_)
  refine lv_aload_n hx hb dX11_least_62 rfl (lv_at hl 0 rfl) ?_
  refine rg_p hC hw 0 (Nat.le_of_ble_eq_true rfl) rfl fd_X11_1 wf_X11_19 (q := 3) rfl dX11_least_63 ?_
  refine lv_iload_n hx hb dX11_least_66 rfl (lv_at hl 2 rfl) ?_
  refine lv_i2l hx hb dX11_least_67 rfl ?_
  obtain ⟨z11, ez11, hf⟩ := bd_e hf
  have mz11 : z10.2.2 ≤ z11.2.2 := mo_X4_add ez11
  refine clc_Vv hC hw (c_X4_add ez11) hd_X4_add cw_X11_214 (Nat.le_of_ble_eq_true rfl) rfl rfl (rest := []) hl.1 rfl (Nat.le_of_ble_eq_true rfl) ⟨Nat.le_of_ble_eq_true rfl, Nat.le_of_ble_eq_true rfl⟩ ⟨(show 2 * (M.2.2 - c0) ≤ 2 * (z.2.2.2 - c0) by omega), (show 52 * (M.2.2 - c0) ≤ 52 * (z.2.2.2 - c0) by omega)⟩ rfl dX11_least_68 (fun H locs hw => ?_)
  refine lv_aload_n hx hb dX11_least_71 rfl (lv_at hl 0 rfl) ?_
  refine rg_p hC hw 0 (Nat.le_of_ble_eq_true rfl) rfl fd_X11_1 wf_X11_19 (q := 3) rfl dX11_least_72 ?_
  refine lv_iload hx hb dX11_least_75 (lv_at hl 3 rfl) ?_
  refine lv_i2l hx hb dX11_least_77 rfl ?_
  obtain ⟨z12, ez12, hf⟩ := bd_e hf
  have mz12 : z11.2.2 ≤ z12.2.2 := mo_X4_add ez12
  refine clc_Vv hC hw (c_X4_add ez12) hd_X4_add cw_X11_214 (Nat.le_of_ble_eq_true rfl) rfl rfl (rest := []) hl.1 rfl (Nat.le_of_ble_eq_true rfl) ⟨Nat.le_of_ble_eq_true rfl, Nat.le_of_ble_eq_true rfl⟩ ⟨(show 2 * (M.2.2 - c0) ≤ 2 * (z.2.2.2 - c0) by omega), (show 52 * (M.2.2 - c0) ≤ 52 * (z.2.2.2 - c0) by omega)⟩ rfl dX11_least_78 (fun H locs hw => ?_)
  refine lv_iload_n hx hb dX11_least_81 rfl (lv_at hl 1 rfl) ?_
  refine W.widen (k := 2 * (z.2.2.2 - c0)) (n := 52 * (z.2.2.2 - c0)) (by omega) (by omega) ?_
  have hz := Option.some.inj hf
  subst hz
  exact rta_i hC hw dX11_least_82
set_option maxRecDepth 100000 in
set_option maxHeartbeats 4000000 in
theorem k_X11_least_47 {p : Program} {l : Launch} {e : Env} {s : State} {m : MethodId} {args : Array Value} {below : List Frame} {meth : Method} {c : Code} {D : va_G} {cy : Nat → ClassId} {z0 : Nat} {ad : Nat → Nat} {X : va_W} {u : Nat × Nat} (hC : cx_C p s m args meth c cX11_least "RhymedThen" (Cond.code yX11_least cX11_least 5 (some .int)) 5 (some .int)) {z : (Int32 × mm_M)} {c0 : Nat} {x1 : Int32} {x2 : Int32} {x3 : Int32} {t0 : Int32} {M : mm_M} (hc0 : c0 ≤ M.2.2) {q25 : Int32 → Int32 → Int32 → mm_M → Option (Int32 × mm_M)} (hq25 : ∀ (x1 : Int32) (x2 : Int32) (x3 : Int32) (M : mm_M) (u : Nat × Nat) (H : Heap) (locs : List Loc) (ls : Array Slot), c0 ≤ M.2.2 → q25 x1 x2 x3 M = some z → wd_in cx_T D cy z0 ad u M X s H locs → lv_has ls 5 [(0, .ref (ad 0)), (1, .int x1), (2, .int x2), (3, .int x3)] → W p l e { frames := 8, cells := 2 * (z.2.2.2 - c0), slots := 52 * (z.2.2.2 - c0), locals := 239 } s m args below meth c H locs (2 * (M.2.2 - c0)) (52 * (M.2.2 - c0)) (MQ below (aq_i cx_T D cy z0 ad X z.1 z.2) args s (2 * (z.2.2.2 - c0)) (52 * (z.2.2.2 - c0)) (fun q => z0 ≤ q)) (F0 m 25 ls [])) (hm25 : ∀ (x1 : Int32) (x2 : Int32) (x3 : Int32) (M : mm_M), q25 x1 x2 x3 M = some z → M.2.2 ≤ z.2.2.2) (hf : f_X11_least_47 q25 x1 x2 x3 t0 M = some z) {H : Heap} {locs : List Loc} (hw : wd_in cx_T D cy z0 ad u M X s H locs) {ls : Array Slot} (hl : lv_has ls 5 [(0, .ref (ad 0)), (1, .int x1), (2, .int x2), (3, .int x3)]) : W p l e { frames := 8, cells := 2 * (z.2.2.2 - c0), slots := 52 * (z.2.2.2 - c0), locals := 239 } s m args below meth c H locs (2 * (M.2.2 - c0)) (52 * (M.2.2 - c0)) (MQ below (aq_i cx_T D cy z0 ad X z.1 z.2) args s (2 * (z.2.2.2 - c0)) (52 * (z.2.2.2 - c0)) (fun q => z0 ≤ q)) (F0 m 47 ls [.int t0]) := by
  have hx := hC.1
  have hb := hC.2.1
  have hmz : M.2.2 ≤ z.2.2.2 := mo_X11_least_47 hm25 hf
  unfold f_X11_least_47 at hf
  refine lv_istore (lv' := [(4, .int t0), (0, .ref (ad 0)), (1, .int x1), (2, .int x2), (3, .int x3)]) hx hb dX11_least_47 hl (by decide) rfl (fun ls hl => ?_)
  refine lv_iload hx hb dX11_least_49 (lv_at hl 0 rfl) ?_
  refine lv_iconst (v := (-1)) hx hb dX11_least_51 (by decide) ?_
  refine lv_icmp_eq (tgt := 83) hx hb dX11_least_52 (by decide) (fun c8 => ?_) (fun c8 => ?_)
  · rw [if_pos c8] at hf
    obtain ⟨y9, ey9, hf⟩ := sq_e hf
    refine lv_iinc (v := y9) (lv' := [(3, .int y9), (4, .int t0), (0, .ref (ad 0)), (1, .int x1), (2, .int x2)]) hx hb dX11_least_83 hl (k := 4) rfl (by rw [ey9]; rfl) (by decide) rfl (fun ls hl => ?_)
    refine lv_goto (tgt := 25) hx hb dX11_least_86 (by decide) ?_
    refine W.widen (k := 2 * (M.2.2 - c0)) (n := 52 * (M.2.2 - c0)) (by omega) (by omega) ?_
    exact hq25 _ _ _ _ _ _ _ _ (by omega) hf hw (lv_sub hl [2, 3, 4, 0] rfl)
  · rw [if_neg c8] at hf
    refine W.widen (k := 2 * (M.2.2 - c0)) (n := 52 * (M.2.2 - c0)) (by omega) (by omega) ?_
    exact k_X11_least_55 hC (by omega) hf hw (lv_sub hl [1, 3, 4, 0] rfl)
set_option maxRecDepth 100000 in
set_option maxHeartbeats 4000000 in
theorem k_X11_least_43 {p : Program} {l : Launch} {e : Env} {s : State} {m : MethodId} {args : Array Value} {below : List Frame} {meth : Method} {c : Code} {D : va_G} {cy : Nat → ClassId} {z0 : Nat} {ad : Nat → Nat} {X : va_W} {u : Nat × Nat} (hC : cx_C p s m args meth c cX11_least "RhymedThen" (Cond.code yX11_least cX11_least 5 (some .int)) 5 (some .int)) {z : (Int32 × mm_M)} {c0 : Nat} {x1 : Int32} {x2 : Int32} {x3 : Int32} {t0 : Int32} {M : mm_M} (hc0 : c0 ≤ M.2.2) {q25 : Int32 → Int32 → Int32 → mm_M → Option (Int32 × mm_M)} (hq25 : ∀ (x1 : Int32) (x2 : Int32) (x3 : Int32) (M : mm_M) (u : Nat × Nat) (H : Heap) (locs : List Loc) (ls : Array Slot), c0 ≤ M.2.2 → q25 x1 x2 x3 M = some z → wd_in cx_T D cy z0 ad u M X s H locs → lv_has ls 5 [(0, .ref (ad 0)), (1, .int x1), (2, .int x2), (3, .int x3)] → W p l e { frames := 8, cells := 2 * (z.2.2.2 - c0), slots := 52 * (z.2.2.2 - c0), locals := 239 } s m args below meth c H locs (2 * (M.2.2 - c0)) (52 * (M.2.2 - c0)) (MQ below (aq_i cx_T D cy z0 ad X z.1 z.2) args s (2 * (z.2.2.2 - c0)) (52 * (z.2.2.2 - c0)) (fun q => z0 ≤ q)) (F0 m 25 ls [])) (hm25 : ∀ (x1 : Int32) (x2 : Int32) (x3 : Int32) (M : mm_M), q25 x1 x2 x3 M = some z → M.2.2 ≤ z.2.2.2) (hf : f_X11_least_43 q25 x1 x2 x3 t0 M = some z) {H : Heap} {locs : List Loc} (hw : wd_in cx_T D cy z0 ad u M X s H locs) {ls : Array Slot} (hl : lv_has ls 5 [(0, .ref (ad 0)), (1, .int x1), (2, .int x2), (3, .int x3)]) : W p l e { frames := 8, cells := 2 * (z.2.2.2 - c0), slots := 52 * (z.2.2.2 - c0), locals := 239 } s m args below meth c H locs (2 * (M.2.2 - c0)) (52 * (M.2.2 - c0)) (MQ below (aq_i cx_T D cy z0 ad X z.1 z.2) args s (2 * (z.2.2.2 - c0)) (52 * (z.2.2.2 - c0)) (fun q => z0 ≤ q)) (F0 m 43 ls [.int t0]) := by
  have hx := hC.1
  have hb := hC.2.1
  have hmz : M.2.2 ≤ z.2.2.2 := mo_X11_least_43 hm25 hf
  unfold f_X11_least_43 at hf
  refine lv_goto (tgt := 47) hx hb dX11_least_43 (by decide) ?_
  refine W.widen (k := 2 * (M.2.2 - c0)) (n := 52 * (M.2.2 - c0)) (by omega) (by omega) ?_
  exact k_X11_least_47 hC (by omega) hq25 hm25 hf hw (lv_sub hl [0, 1, 2, 3] rfl)
set_option maxRecDepth 100000 in
set_option maxHeartbeats 4000000 in
theorem k_X11_least_89 {p : Program} {l : Launch} {e : Env} {s : State} {m : MethodId} {args : Array Value} {below : List Frame} {meth : Method} {c : Code} {D : va_G} {cy : Nat → ClassId} {z0 : Nat} {ad : Nat → Nat} {X : va_W} {u : Nat × Nat} (hC : cx_C p s m args meth c cX11_least "RhymedThen" (Cond.code yX11_least cX11_least 5 (some .int)) 5 (some .int)) {z : (Int32 × mm_M)} {c0 : Nat} {x1 : Int32} {x2 : Int32} {M : mm_M} (hc0 : c0 ≤ M.2.2) {q12 : Int32 → Int32 → mm_M → Option (Int32 × mm_M)} (hq12 : ∀ (x1 : Int32) (x2 : Int32) (M : mm_M) (u : Nat × Nat) (H : Heap) (locs : List Loc) (ls : Array Slot), c0 ≤ M.2.2 → q12 x1 x2 M = some z → wd_in cx_T D cy z0 ad u M X s H locs → lv_has ls 5 [(0, .ref (ad 0)), (1, .int x1), (2, .int x2)] → W p l e { frames := 8, cells := 2 * (z.2.2.2 - c0), slots := 52 * (z.2.2.2 - c0), locals := 239 } s m args below meth c H locs (2 * (M.2.2 - c0)) (52 * (M.2.2 - c0)) (MQ below (aq_i cx_T D cy z0 ad X z.1 z.2) args s (2 * (z.2.2.2 - c0)) (52 * (z.2.2.2 - c0)) (fun q => z0 ≤ q)) (F0 m 12 ls [])) (hm12 : ∀ (x1 : Int32) (x2 : Int32) (M : mm_M), q12 x1 x2 M = some z → M.2.2 ≤ z.2.2.2) (hf : f_X11_least_89 q12 x1 x2 M = some z) {H : Heap} {locs : List Loc} (hw : wd_in cx_T D cy z0 ad u M X s H locs) {ls : Array Slot} (hl : lv_has ls 5 [(0, .ref (ad 0)), (1, .int x1), (2, .int x2)]) : W p l e { frames := 8, cells := 2 * (z.2.2.2 - c0), slots := 52 * (z.2.2.2 - c0), locals := 239 } s m args below meth c H locs (2 * (M.2.2 - c0)) (52 * (M.2.2 - c0)) (MQ below (aq_i cx_T D cy z0 ad X z.1 z.2) args s (2 * (z.2.2.2 - c0)) (52 * (z.2.2.2 - c0)) (fun q => z0 ≤ q)) (F0 m 89 ls []) := by
  have hx := hC.1
  have hb := hC.2.1
  have hmz : M.2.2 ≤ z.2.2.2 := mo_X11_least_89 hm12 hf
  unfold f_X11_least_89 at hf
  obtain ⟨y7, ey7, hf⟩ := sq_e hf
  refine lv_iinc (v := y7) (lv' := [(2, .int y7), (0, .ref (ad 0)), (1, .int x1)]) hx hb dX11_least_89 hl (k := 2) rfl (by rw [ey7]; rfl) (by decide) rfl (fun ls hl => ?_)
  refine lv_goto (tgt := 12) hx hb dX11_least_92 (by decide) ?_
  refine W.widen (k := 2 * (M.2.2 - c0)) (n := 52 * (M.2.2 - c0)) (by omega) (by omega) ?_
  exact hq12 _ _ _ _ _ _ _ (by omega) hf hw (lv_sub hl [1, 2, 0] rfl)
set_option maxRecDepth 100000 in
set_option maxHeartbeats 4000000 in
theorem k_X11_least_25 {p : Program} {l : Launch} {e : Env} {s : State} {m : MethodId} {args : Array Value} {below : List Frame} {meth : Method} {c : Code} {D : va_G} {cy : Nat → ClassId} {z0 : Nat} {ad : Nat → Nat} {X : va_W} {u : Nat × Nat} (hC : cx_C p s m args meth c cX11_least "RhymedThen" (Cond.code yX11_least cX11_least 5 (some .int)) 5 (some .int)) {z : (Int32 × mm_M)} {c0 : Nat} {x1 : Int32} {x2 : Int32} {x3 : Int32} {M : mm_M} (hc0 : c0 ≤ M.2.2) {q12 : Int32 → Int32 → mm_M → Option (Int32 × mm_M)} (hq12 : ∀ (x1 : Int32) (x2 : Int32) (M : mm_M) (u : Nat × Nat) (H : Heap) (locs : List Loc) (ls : Array Slot), c0 ≤ M.2.2 → q12 x1 x2 M = some z → wd_in cx_T D cy z0 ad u M X s H locs → lv_has ls 5 [(0, .ref (ad 0)), (1, .int x1), (2, .int x2)] → W p l e { frames := 8, cells := 2 * (z.2.2.2 - c0), slots := 52 * (z.2.2.2 - c0), locals := 239 } s m args below meth c H locs (2 * (M.2.2 - c0)) (52 * (M.2.2 - c0)) (MQ below (aq_i cx_T D cy z0 ad X z.1 z.2) args s (2 * (z.2.2.2 - c0)) (52 * (z.2.2.2 - c0)) (fun q => z0 ≤ q)) (F0 m 12 ls [])) (hm12 : ∀ (x1 : Int32) (x2 : Int32) (M : mm_M), q12 x1 x2 M = some z → M.2.2 ≤ z.2.2.2) {q25 : Int32 → Int32 → Int32 → mm_M → Option (Int32 × mm_M)} (hq25 : ∀ (x1 : Int32) (x2 : Int32) (x3 : Int32) (M : mm_M) (u : Nat × Nat) (H : Heap) (locs : List Loc) (ls : Array Slot), c0 ≤ M.2.2 → q25 x1 x2 x3 M = some z → wd_in cx_T D cy z0 ad u M X s H locs → lv_has ls 5 [(0, .ref (ad 0)), (1, .int x1), (2, .int x2), (3, .int x3)] → W p l e { frames := 8, cells := 2 * (z.2.2.2 - c0), slots := 52 * (z.2.2.2 - c0), locals := 239 } s m args below meth c H locs (2 * (M.2.2 - c0)) (52 * (M.2.2 - c0)) (MQ below (aq_i cx_T D cy z0 ad X z.1 z.2) args s (2 * (z.2.2.2 - c0)) (52 * (z.2.2.2 - c0)) (fun q => z0 ≤ q)) (F0 m 25 ls [])) (hm25 : ∀ (x1 : Int32) (x2 : Int32) (x3 : Int32) (M : mm_M), q25 x1 x2 x3 M = some z → M.2.2 ≤ z.2.2.2) (hf : f_X11_least_25 q12 q25 x1 x2 x3 M = some z) {H : Heap} {locs : List Loc} (hw : wd_in cx_T D cy z0 ad u M X s H locs) {ls : Array Slot} (hl : lv_has ls 5 [(0, .ref (ad 0)), (1, .int x1), (2, .int x2), (3, .int x3)]) : W p l e { frames := 8, cells := 2 * (z.2.2.2 - c0), slots := 52 * (z.2.2.2 - c0), locals := 239 } s m args below meth c H locs (2 * (M.2.2 - c0)) (52 * (M.2.2 - c0)) (MQ below (aq_i cx_T D cy z0 ad X z.1 z.2) args s (2 * (z.2.2.2 - c0)) (52 * (z.2.2.2 - c0)) (fun q => z0 ≤ q)) (F0 m 25 ls []) := by
  have hx := hC.1
  have hb := hC.2.1
  have hmz : M.2.2 ≤ z.2.2.2 := mo_X11_least_25 hm12 hm25 hf
  unfold f_X11_least_25 at hf
  refine lv_iload_n hx hb dX11_least_25 rfl (lv_at hl 3 rfl) ?_
  refine lv_iload_n hx hb dX11_least_26 rfl (lv_at hl 1 rfl) ?_
  refine lv_icmp_ge (tgt := 89) hx hb dX11_least_27 (by decide) (fun c3 => ?_) (fun c3 => ?_)
  · rw [if_pos c3] at hf
    refine W.widen (k := 2 * (M.2.2 - c0)) (n := 52 * (M.2.2 - c0)) (by omega) (by omega) ?_
    exact k_X11_least_89 hC (by omega) hq12 hm12 hf hw (lv_sub hl [0, 1, 2] rfl)
  · rw [if_neg c3] at hf
    refine lv_iload_n hx hb dX11_least_30 rfl (lv_at hl 3 rfl) ?_
    obtain ⟨z4, ez4, hf⟩ := sq_e hf
    refine clc_Si hC hw (c_J6_bitCount_0f7a4 ez4.symm) hd_J6_bitCount_0f7a4 cw_X11_308 (rest := []) hl.1 rfl (Nat.le_of_ble_eq_true rfl) ⟨Nat.le_of_ble_eq_true rfl, Nat.le_of_ble_eq_true rfl⟩ ⟨(show 2 * (M.2.2 - c0) ≤ 2 * (z.2.2.2 - c0) by omega), (show 52 * (M.2.2 - c0) ≤ 52 * (z.2.2.2 - c0) by omega)⟩ rfl dX11_least_31 (fun H locs hw => ?_)
    refine lv_iload_n hx hb dX11_least_34 rfl (lv_at hl 2 rfl) ?_
    refine lv_icmp_ne (tgt := 46) hx hb dX11_least_35 (by decide) (fun c5 => ?_) (fun c5 => ?_)
    · rw [if_neg c5] at hf
      refine lv_iconst (v := (-1)) hx hb dX11_least_46 (by decide) ?_
      refine W.widen (k := 2 * (M.2.2 - c0)) (n := 52 * (M.2.2 - c0)) (by omega) (by omega) ?_
      exact k_X11_least_47 hC (by omega) hq25 hm25 hf hw (lv_sub hl [0, 1, 2, 3] rfl)
    · rw [if_pos c5] at hf
      refine lv_aload_n hx hb dX11_least_38 rfl (lv_at hl 0 rfl) ?_
      refine lv_iload_n hx hb dX11_least_39 rfl (lv_at hl 3 rfl) ?_
      obtain ⟨z6, ez6, hf⟩ := bd_e hf
      have mz6 : M.2.2 ≤ z6.2.2.2 := mo_X11_firstFittingAmong ez6
      have hnz : z6.2.2.2 ≤ z.2.2.2 := mo_X11_least_43 hm25 hf
      refine cla_Vi hC hw (c_X11_firstFittingAmong ez6) hd_X11_firstFittingAmong cw_X11_326 (Nat.le_of_ble_eq_true rfl) rfl rfl (rest := []) hl.1 rfl (Nat.le_of_ble_eq_true rfl) ⟨Nat.le_of_ble_eq_true rfl, Nat.le_of_ble_eq_true rfl⟩ ⟨(show 2 * (M.2.2 - c0) + 2 * (z6.2.2.2 - M.2.2) ≤ 2 * (z.2.2.2 - c0) by omega), (show 52 * (M.2.2 - c0) + 52 * (z6.2.2.2 - M.2.2) ≤ 52 * (z.2.2.2 - c0) by omega)⟩ rfl dX11_least_40 (fun u H locs hw => ?_)
      refine W.widen (k := 2 * (z6.2.2.2 - c0)) (n := 52 * (z6.2.2.2 - c0)) (by omega) (by omega) ?_
      exact k_X11_least_43 hC (by omega) hq25 hm25 hf hw (lv_sub hl [0, 1, 2, 3] rfl)
set_option maxRecDepth 100000 in
set_option maxHeartbeats 4000000 in
theorem k_X11_least_25l {p : Program} {l : Launch} {e : Env} {s : State} {m : MethodId} {args : Array Value} {below : List Frame} {meth : Method} {c : Code} {D : va_G} {cy : Nat → ClassId} {z0 : Nat} {ad : Nat → Nat} {X : va_W} (hC : cx_C p s m args meth c cX11_least "RhymedThen" (Cond.code yX11_least cX11_least 5 (some .int)) 5 (some .int)) {z : (Int32 × mm_M)} {c0 : Nat} {q12 : Int32 → Int32 → mm_M → Option (Int32 × mm_M)} (hq12 : ∀ (x1 : Int32) (x2 : Int32) (M : mm_M) (u : Nat × Nat) (H : Heap) (locs : List Loc) (ls : Array Slot), c0 ≤ M.2.2 → q12 x1 x2 M = some z → wd_in cx_T D cy z0 ad u M X s H locs → lv_has ls 5 [(0, .ref (ad 0)), (1, .int x1), (2, .int x2)] → W p l e { frames := 8, cells := 2 * (z.2.2.2 - c0), slots := 52 * (z.2.2.2 - c0), locals := 239 } s m args below meth c H locs (2 * (M.2.2 - c0)) (52 * (M.2.2 - c0)) (MQ below (aq_i cx_T D cy z0 ad X z.1 z.2) args s (2 * (z.2.2.2 - c0)) (52 * (z.2.2.2 - c0)) (fun q => z0 ≤ q)) (F0 m 12 ls [])) (hm12 : ∀ (x1 : Int32) (x2 : Int32) (M : mm_M), q12 x1 x2 M = some z → M.2.2 ≤ z.2.2.2) : ∀ (n : Nat) (x1 : Int32) (x2 : Int32) (x3 : Int32) (M : mm_M) (u : Nat × Nat) (H : Heap) (locs : List Loc) (ls : Array Slot), c0 ≤ M.2.2 → f_X11_least_25l q12 n x1 x2 x3 M = some z → wd_in cx_T D cy z0 ad u M X s H locs → lv_has ls 5 [(0, .ref (ad 0)), (1, .int x1), (2, .int x2), (3, .int x3)] → W p l e { frames := 8, cells := 2 * (z.2.2.2 - c0), slots := 52 * (z.2.2.2 - c0), locals := 239 } s m args below meth c H locs (2 * (M.2.2 - c0)) (52 * (M.2.2 - c0)) (MQ below (aq_i cx_T D cy z0 ad X z.1 z.2) args s (2 * (z.2.2.2 - c0)) (52 * (z.2.2.2 - c0)) (fun q => z0 ≤ q)) (F0 m 25 ls []) := by
  intro n
  induction n with
  | zero => intro x1 x2 x3 M u H locs ls hc0 hf; exact absurd hf (by simp [f_X11_least_25l])
  | succ n ih => intro x1 x2 x3 M u H locs ls hc0 hf hw hl; exact k_X11_least_25 hC hc0 hq12 hm12 ih (mo_X11_least_25l hm12 n) hf hw hl
set_option maxRecDepth 100000 in
set_option maxHeartbeats 4000000 in
theorem k_X11_least_12 {p : Program} {l : Launch} {e : Env} {s : State} {m : MethodId} {args : Array Value} {below : List Frame} {meth : Method} {c : Code} {D : va_G} {cy : Nat → ClassId} {z0 : Nat} {ad : Nat → Nat} {X : va_W} {u : Nat × Nat} (hC : cx_C p s m args meth c cX11_least "RhymedThen" (Cond.code yX11_least cX11_least 5 (some .int)) 5 (some .int)) {z : (Int32 × mm_M)} {c0 : Nat} {x1 : Int32} {x2 : Int32} {M : mm_M} (hc0 : c0 ≤ M.2.2) {q12 : Int32 → Int32 → mm_M → Option (Int32 × mm_M)} (hq12 : ∀ (x1 : Int32) (x2 : Int32) (M : mm_M) (u : Nat × Nat) (H : Heap) (locs : List Loc) (ls : Array Slot), c0 ≤ M.2.2 → q12 x1 x2 M = some z → wd_in cx_T D cy z0 ad u M X s H locs → lv_has ls 5 [(0, .ref (ad 0)), (1, .int x1), (2, .int x2)] → W p l e { frames := 8, cells := 2 * (z.2.2.2 - c0), slots := 52 * (z.2.2.2 - c0), locals := 239 } s m args below meth c H locs (2 * (M.2.2 - c0)) (52 * (M.2.2 - c0)) (MQ below (aq_i cx_T D cy z0 ad X z.1 z.2) args s (2 * (z.2.2.2 - c0)) (52 * (z.2.2.2 - c0)) (fun q => z0 ≤ q)) (F0 m 12 ls [])) (hm12 : ∀ (x1 : Int32) (x2 : Int32) (M : mm_M), q12 x1 x2 M = some z → M.2.2 ≤ z.2.2.2) (hf : f_X11_least_12 q12 x1 x2 M = some z) {H : Heap} {locs : List Loc} (hw : wd_in cx_T D cy z0 ad u M X s H locs) {ls : Array Slot} (hl : lv_has ls 5 [(0, .ref (ad 0)), (1, .int x1), (2, .int x2)]) : W p l e { frames := 8, cells := 2 * (z.2.2.2 - c0), slots := 52 * (z.2.2.2 - c0), locals := 239 } s m args below meth c H locs (2 * (M.2.2 - c0)) (52 * (M.2.2 - c0)) (MQ below (aq_i cx_T D cy z0 ad X z.1 z.2) args s (2 * (z.2.2.2 - c0)) (52 * (z.2.2.2 - c0)) (fun q => z0 ≤ q)) (F0 m 12 ls []) := by
  have hx := hC.1
  have hb := hC.2.1
  have hmz : M.2.2 ≤ z.2.2.2 := mo_X11_least_12 hm12 hf
  unfold f_X11_least_12 at hf
  refine lv_iload_n hx hb dX11_least_12 rfl (lv_at hl 2 rfl) ?_
  refine lv_aload_n hx hb dX11_least_13 rfl (lv_at hl 0 rfl) ?_
  refine rg_p hC hw 0 (Nat.le_of_ble_eq_true rfl) rfl fd_X11_2 wf_X11_26 (q := 5) rfl dX11_least_14 ?_
  refine rg_i hC hw 5 (Nat.le_of_ble_eq_true rfl) rfl fd_X9_1 wf_X11_138 dX11_least_17 ?_
  refine lv_icmp_gt (tgt := 95) hx hb dX11_least_20 (by decide) (fun c2 => ?_) (fun c2 => ?_)
  · rw [if_pos c2] at hf
    refine lv_bipush (v := (-2)) hx hb dX11_least_95 (by decide) ?_
    refine W.widen (k := 2 * (z.2.2.2 - c0)) (n := 52 * (z.2.2.2 - c0)) (by omega) (by omega) ?_
    have hz := Option.some.inj hf
    subst hz
    exact rta_i hC hw dX11_least_97
  · rw [if_neg c2] at hf
    refine lv_iconst (v := 0) hx hb dX11_least_23 (by decide) ?_
    refine lv_istore_n (lv' := [(3, .int 0), (0, .ref (ad 0)), (1, .int x1), (2, .int x2)]) hx hb dX11_least_24 rfl hl (by decide) rfl (fun ls hl => ?_)
    refine W.widen (k := 2 * (M.2.2 - c0)) (n := 52 * (M.2.2 - c0)) (by omega) (by omega) ?_
    exact k_X11_least_25l hC hq12 hm12 fu_ _ _ _ _ _ _ _ _ (by omega) hf hw (lv_sub hl [1, 2, 3, 0] rfl)
set_option maxRecDepth 100000 in
set_option maxHeartbeats 4000000 in
theorem k_X11_least_12l {p : Program} {l : Launch} {e : Env} {s : State} {m : MethodId} {args : Array Value} {below : List Frame} {meth : Method} {c : Code} {D : va_G} {cy : Nat → ClassId} {z0 : Nat} {ad : Nat → Nat} {X : va_W} (hC : cx_C p s m args meth c cX11_least "RhymedThen" (Cond.code yX11_least cX11_least 5 (some .int)) 5 (some .int)) {z : (Int32 × mm_M)} {c0 : Nat} : ∀ (n : Nat) (x1 : Int32) (x2 : Int32) (M : mm_M) (u : Nat × Nat) (H : Heap) (locs : List Loc) (ls : Array Slot), c0 ≤ M.2.2 → f_X11_least_12l n x1 x2 M = some z → wd_in cx_T D cy z0 ad u M X s H locs → lv_has ls 5 [(0, .ref (ad 0)), (1, .int x1), (2, .int x2)] → W p l e { frames := 8, cells := 2 * (z.2.2.2 - c0), slots := 52 * (z.2.2.2 - c0), locals := 239 } s m args below meth c H locs (2 * (M.2.2 - c0)) (52 * (M.2.2 - c0)) (MQ below (aq_i cx_T D cy z0 ad X z.1 z.2) args s (2 * (z.2.2.2 - c0)) (52 * (z.2.2.2 - c0)) (fun q => z0 ≤ q)) (F0 m 12 ls []) := by
  intro n
  induction n with
  | zero => intro x1 x2 M u H locs ls hc0 hf; exact absurd hf (by simp [f_X11_least_12l])
  | succ n ih => intro x1 x2 M u H locs ls hc0 hf hw hl; exact k_X11_least_12 hC hc0 ih (mo_X11_least_12l n) hf hw hl
set_option maxRecDepth 100000 in
set_option maxHeartbeats 4000000 in
theorem k_X11_least {p : Program} {l : Launch} {e : Env} {s : State} {m : MethodId} {args : Array Value} {below : List Frame} {meth : Method} {c : Code} {D : va_G} {cy : Nat → ClassId} {z0 : Nat} {ad : Nat → Nat} {X : va_W} {u : Nat × Nat} (hC : cx_C p s m args meth c cX11_least "RhymedThen" (Cond.code yX11_least cX11_least 5 (some .int)) 5 (some .int)) {z : (Int32 × mm_M)} {c0 : Nat} {M : mm_M} (hc0 : c0 ≤ M.2.2) (hf : f_X11_least M = some z) {H : Heap} {locs : List Loc} (hw : wd_in cx_T D cy z0 ad u M X s H locs) {ls : Array Slot} (hl : lv_has ls 5 [(0, .ref (ad 0))]) : W p l e { frames := 8, cells := 2 * (z.2.2.2 - c0), slots := 52 * (z.2.2.2 - c0), locals := 239 } s m args below meth c H locs (2 * (M.2.2 - c0)) (52 * (M.2.2 - c0)) (MQ below (aq_i cx_T D cy z0 ad X z.1 z.2) args s (2 * (z.2.2.2 - c0)) (52 * (z.2.2.2 - c0)) (fun q => z0 ≤ q)) (F0 m 0 ls []) := by
  have hx := hC.1
  have hb := hC.2.1
  have hmz : M.2.2 ≤ z.2.2.2 := mo_X11_least hf
  unfold f_X11_least at hf
  refine lv_iconst (v := 1) hx hb dX11_least_0 (by decide) ?_
  refine lv_aload_n hx hb dX11_least_1 rfl (lv_at hl 0 rfl) ?_
  refine rg_p hC hw 0 (Nat.le_of_ble_eq_true rfl) rfl fd_X11_2 wf_X11_26 (q := 5) rfl dX11_least_2 ?_
  refine rg_i hC hw 5 (Nat.le_of_ble_eq_true rfl) rfl fd_X9_1 wf_X11_138 dX11_least_5 ?_
  refine lv_ishl hx hb dX11_least_8 ?_
  obtain ⟨y1, ey1, hf⟩ := sq_e hf
  refine lt_i ey1 ?_
  refine lv_istore_n (lv' := [(1, .int y1), (0, .ref (ad 0))]) hx hb dX11_least_9 rfl hl (by decide) rfl (fun ls hl => ?_)
  refine lv_iconst (v := 0) hx hb dX11_least_10 (by decide) ?_
  refine lv_istore_n (lv' := [(2, .int 0), (1, .int y1), (0, .ref (ad 0))]) hx hb dX11_least_11 rfl hl (by decide) rfl (fun ls hl => ?_)
  refine W.widen (k := 2 * (M.2.2 - c0)) (n := 52 * (M.2.2 - c0)) (by omega) (by omega) ?_
  exact k_X11_least_12l hC fu_ _ _ _ _ _ _ _ (by omega) hf hw (lv_sub hl [2, 1, 0] rfl)
set_option maxRecDepth 100000 in
theorem c_X11_least {l : Launch} {D : va_G} {cy : Nat → ClassId} {z0 : Nat} {ad : Nat → Nat} {u : Nat × Nat} {X : va_W} {z : (Int32 × mm_M)} {M : mm_M} (hf : f_X11_least M = some z) : ca_i cx_T l yX11_least (Cond.code yX11_least cX11_least 5 (some .int)) 8 239 D cy z0 ad u M X [.ref (ad 0)] z.1 z.2 := by
  refine bga_i (by decide) (fun p e s m below meth c hC hw => ?_)
  refine en_t (Nat.le_of_ble_eq_true rfl) (fun ls hl => ?_)
  have hl : lv_has ls 5 [(0, .ref (ad 0))] := hl
  refine W.widen (k := 2 * (M.2.2 - M.2.2)) (n := 52 * (M.2.2 - M.2.2)) (by omega) (by omega) ?_
  exact k_X11_least hC (Nat.le_refl _) hf hw hl
set_option maxRecDepth 100000 in
set_option maxHeartbeats 4000000 in
theorem k_X6_weightOf_73 {p : Program} {l : Launch} {e : Env} {s : State} {m : MethodId} {args : Array Value} {below : List Frame} {meth : Method} {c : Code} {D : va_G} {cy : Nat → ClassId} {z0 : Nat} {ad : Nat → Nat} {X : va_W} {u : Nat × Nat} (hC : cx_C p s m args meth c cX6_weightOf "RhymedThen$Signs" (Cond.code yX6_weightOf cX6_weightOf 7 (some .long)) 7 (some .long)) {z : Int64} {x2 : Int32} {x3 : Int32} {x4 : Int64} {x6 : Int32} {M : mm_M} {q13 : Int32 → Int32 → Int64 → Int32 → Option Int64} (hq13 : ∀ (x2 : Int32) (x3 : Int32) (x4 : Int64) (x6 : Int32) (H : Heap) (locs : List Loc) (ls : Array Slot), q13 x2 x3 x4 x6 = some z → wd_in cx_T D cy z0 ad u M X s H locs → lv_has ls 7 [(0, .ref (ad 19)), (2, .int x2), (3, .int x3), (4, .long x4), (6, .int x6)] → W p l e { frames := 0, cells := 0, slots := 0, locals := 0 } s m args below meth c H locs 0 0 (MQ below (cq_l cx_T D cy z0 ad u X z M) args s 0 0 (fun q => z0 ≤ q)) (F0 m 13 ls [])) (hf : f_X6_weightOf_73 q13 x2 x3 x4 x6 M = some z) {H : Heap} {locs : List Loc} (hw : wd_in cx_T D cy z0 ad u M X s H locs) {ls : Array Slot} (hl : lv_has ls 7 [(0, .ref (ad 19)), (2, .int x2), (3, .int x3), (4, .long x4), (6, .int x6)]) : W p l e { frames := 0, cells := 0, slots := 0, locals := 0 } s m args below meth c H locs 0 0 (MQ below (cq_l cx_T D cy z0 ad u X z M) args s 0 0 (fun q => z0 ≤ q)) (F0 m 73 ls []) := by
  have hx := hC.1
  have hb := hC.2.1
  unfold f_X6_weightOf_73 at hf
  obtain ⟨y8, ey8, hf⟩ := sq_e hf
  refine lv_iinc (v := y8) (lv' := [(6, .int y8), (0, .ref (ad 19)), (2, .int x2), (3, .int x3), (4, .long x4)]) hx hb dX6_weightOf_73 hl (k := 4) rfl (by rw [ey8]; rfl) (by decide) rfl (fun ls hl => ?_)
  refine lv_goto (tgt := 13) hx hb dX6_weightOf_76 (by decide) ?_
  exact hq13 _ _ _ _ _ _ _ hf hw (lv_sub hl [1, 2, 3, 4, 0] rfl)
set_option maxRecDepth 100000 in
set_option maxHeartbeats 4000000 in
theorem k_X6_weightOf_70 {p : Program} {l : Launch} {e : Env} {s : State} {m : MethodId} {args : Array Value} {below : List Frame} {meth : Method} {c : Code} {D : va_G} {cy : Nat → ClassId} {z0 : Nat} {ad : Nat → Nat} {X : va_W} {u : Nat × Nat} (hC : cx_C p s m args meth c cX6_weightOf "RhymedThen$Signs" (Cond.code yX6_weightOf cX6_weightOf 7 (some .long)) 7 (some .long)) {z : Int64} {x2 : Int32} {x3 : Int32} {x6 : Int32} {t0 : Int64} {t1 : Int64} {M : mm_M} {q13 : Int32 → Int32 → Int64 → Int32 → Option Int64} (hq13 : ∀ (x2 : Int32) (x3 : Int32) (x4 : Int64) (x6 : Int32) (H : Heap) (locs : List Loc) (ls : Array Slot), q13 x2 x3 x4 x6 = some z → wd_in cx_T D cy z0 ad u M X s H locs → lv_has ls 7 [(0, .ref (ad 19)), (2, .int x2), (3, .int x3), (4, .long x4), (6, .int x6)] → W p l e { frames := 0, cells := 0, slots := 0, locals := 0 } s m args below meth c H locs 0 0 (MQ below (cq_l cx_T D cy z0 ad u X z M) args s 0 0 (fun q => z0 ≤ q)) (F0 m 13 ls [])) (hf : f_X6_weightOf_70 q13 x2 x3 x6 t0 t1 M = some z) {H : Heap} {locs : List Loc} (hw : wd_in cx_T D cy z0 ad u M X s H locs) {ls : Array Slot} (hl : lv_has ls 7 [(0, .ref (ad 19)), (2, .int x2), (3, .int x3), (6, .int x6)]) : W p l e { frames := 0, cells := 0, slots := 0, locals := 0 } s m args below meth c H locs 0 0 (MQ below (cq_l cx_T D cy z0 ad u X z M) args s 0 0 (fun q => z0 ≤ q)) (F0 m 70 ls [.long t1, .long t0]) := by
  have hx := hC.1
  have hb := hC.2.1
  unfold f_X6_weightOf_70 at hf
  refine lv_lmul hx hb dX6_weightOf_70 ?_
  obtain ⟨y9, ey9, hf⟩ := sq_e hf
  refine lt_l ey9 ?_
  refine lv_lstore (lv' := [(4, .long y9), (0, .ref (ad 19)), (2, .int x2), (3, .int x3), (6, .int x6)]) hx hb dX6_weightOf_71 hl (by decide) rfl (fun ls hl => ?_)
  exact k_X6_weightOf_73 hC hq13 hf hw (lv_sub hl [1, 2, 3, 0, 4] rfl)
set_option maxRecDepth 100000 in
set_option maxHeartbeats 4000000 in
theorem k_X6_weightOf_13 {p : Program} {l : Launch} {e : Env} {s : State} {m : MethodId} {args : Array Value} {below : List Frame} {meth : Method} {c : Code} {D : va_G} {cy : Nat → ClassId} {z0 : Nat} {ad : Nat → Nat} {X : va_W} {u : Nat × Nat} (hC : cx_C p s m args meth c cX6_weightOf "RhymedThen$Signs" (Cond.code yX6_weightOf cX6_weightOf 7 (some .long)) 7 (some .long)) {z : Int64} {x2 : Int32} {x3 : Int32} {x4 : Int64} {x6 : Int32} {M : mm_M} {q13 : Int32 → Int32 → Int64 → Int32 → Option Int64} (hq13 : ∀ (x2 : Int32) (x3 : Int32) (x4 : Int64) (x6 : Int32) (H : Heap) (locs : List Loc) (ls : Array Slot), q13 x2 x3 x4 x6 = some z → wd_in cx_T D cy z0 ad u M X s H locs → lv_has ls 7 [(0, .ref (ad 19)), (2, .int x2), (3, .int x3), (4, .long x4), (6, .int x6)] → W p l e { frames := 0, cells := 0, slots := 0, locals := 0 } s m args below meth c H locs 0 0 (MQ below (cq_l cx_T D cy z0 ad u X z M) args s 0 0 (fun q => z0 ≤ q)) (F0 m 13 ls [])) (hf : f_X6_weightOf_13 q13 x2 x3 x4 x6 M = some z) {H : Heap} {locs : List Loc} (hw : wd_in cx_T D cy z0 ad u M X s H locs) {ls : Array Slot} (hl : lv_has ls 7 [(0, .ref (ad 19)), (2, .int x2), (3, .int x3), (4, .long x4), (6, .int x6)]) : W p l e { frames := 0, cells := 0, slots := 0, locals := 0 } s m args below meth c H locs 0 0 (MQ below (cq_l cx_T D cy z0 ad u X z M) args s 0 0 (fun q => z0 ≤ q)) (F0 m 13 ls []) := by
  have hx := hC.1
  have hb := hC.2.1
  unfold f_X6_weightOf_13 at hf
  refine lv_iload hx hb dX6_weightOf_13 (lv_at hl 4 rfl) ?_
  refine lv_aload_n hx hb dX6_weightOf_15 rfl (lv_at hl 0 rfl) ?_
  refine rg_i hC hw 19 (Nat.le_of_ble_eq_true rfl) rfl fd_X6_3 wf_X6_17 dX6_weightOf_16 ?_
  refine lv_icmp_ge (tgt := 79) hx hb dX6_weightOf_19 (by decide) (fun c3 => ?_) (fun c3 => ?_)
  · rw [if_pos c3] at hf
    refine lv_lload hx hb dX6_weightOf_79 (lv_at hl 3 rfl) ?_
    have hz := Option.some.inj hf
    subst hz
    exact rtc_l hC hw dX6_weightOf_81
  · rw [if_neg c3] at hf
    refine lv_iload_n hx hb dX6_weightOf_22 rfl (lv_at hl 1 rfl) ?_
    refine lv_iload hx hb dX6_weightOf_23 (lv_at hl 4 rfl) ?_
    refine lv_ishr hx hb dX6_weightOf_25 ?_
    refine lv_iconst (v := 1) hx hb dX6_weightOf_26 (by decide) ?_
    refine lv_iand hx hb dX6_weightOf_27 ?_
    refine lv_if_eq (tgt := 73) hx hb dX6_weightOf_28 (by decide) (fun c4 => ?_) (fun c4 => ?_)
    · rw [if_pos c4] at hf
      exact k_X6_weightOf_73 hC hq13 hf hw (lv_sub hl [0, 1, 2, 3, 4] rfl)
    · rw [if_neg c4] at hf
      refine lv_lload hx hb dX6_weightOf_31 (lv_at hl 3 rfl) ?_
      refine lv_iload_n hx hb dX6_weightOf_33 rfl (lv_at hl 2 rfl) ?_
      refine lv_iload hx hb dX6_weightOf_34 (lv_at hl 4 rfl) ?_
      refine lv_ishr hx hb dX6_weightOf_36 ?_
      refine lv_iconst (v := 1) hx hb dX6_weightOf_37 (by decide) ?_
      refine lv_iand hx hb dX6_weightOf_38 ?_
      refine lv_if_eq (tgt := 56) hx hb dX6_weightOf_39 (by decide) (fun c5 => ?_) (fun c5 => ?_)
      · rw [if_pos c5] at hf
        refine lv_bipush (v := 10) hx hb dX6_weightOf_56 (by decide) ?_
        refine lv_aload_n hx hb dX6_weightOf_58 rfl (lv_at hl 0 rfl) ?_
        refine rg_p hC hw 19 (Nat.le_of_ble_eq_true rfl) rfl fd_X6_2 wf_X6_11 (q := 20) rfl dX6_weightOf_59 ?_
        refine lv_iload hx hb dX6_weightOf_62 (lv_at hl 4 rfl) ?_
        obtain ⟨h6, hf⟩ := ck_e hf
        refine ra_S hC hw 20 (Nat.le_of_ble_eq_true rfl) rfl h6 dX6_weightOf_64 ?_
        refine rg_i hC hw (22 + x6.toNatClampNeg) (sg_lt (sg_ix h6)) (sg_kd (sg_ix h6)) fd_X5_7 wf_X6_81 dX6_weightOf_65 ?_
        refine lv_isub hx hb dX6_weightOf_68 ?_
        refine lv_i2l hx hb dX6_weightOf_69 rfl ?_
        exact k_X6_weightOf_70 hC hq13 hf hw (lv_sub hl [0, 1, 2, 4] rfl)
      · rw [if_neg c5] at hf
        refine lv_aload_n hx hb dX6_weightOf_42 rfl (lv_at hl 0 rfl) ?_
        refine rg_p hC hw 19 (Nat.le_of_ble_eq_true rfl) rfl fd_X6_2 wf_X6_11 (q := 20) rfl dX6_weightOf_43 ?_
        refine lv_iload hx hb dX6_weightOf_46 (lv_at hl 4 rfl) ?_
        obtain ⟨h7, hf⟩ := ck_e hf
        refine ra_S hC hw 20 (Nat.le_of_ble_eq_true rfl) rfl h7 dX6_weightOf_48 ?_
        refine rg_i hC hw (22 + x6.toNatClampNeg) (sg_lt (sg_ix h7)) (sg_kd (sg_ix h7)) fd_X5_7 wf_X6_81 dX6_weightOf_49 ?_
        refine lv_i2l hx hb dX6_weightOf_52 rfl ?_
        refine lv_goto (tgt := 70) hx hb dX6_weightOf_53 (by decide) ?_
        exact k_X6_weightOf_70 hC hq13 hf hw (lv_sub hl [0, 1, 2, 4] rfl)
set_option maxRecDepth 100000 in
set_option maxHeartbeats 4000000 in
theorem k_X6_weightOf_13l {p : Program} {l : Launch} {e : Env} {s : State} {m : MethodId} {args : Array Value} {below : List Frame} {meth : Method} {c : Code} {D : va_G} {cy : Nat → ClassId} {z0 : Nat} {ad : Nat → Nat} {X : va_W} {u : Nat × Nat} (hC : cx_C p s m args meth c cX6_weightOf "RhymedThen$Signs" (Cond.code yX6_weightOf cX6_weightOf 7 (some .long)) 7 (some .long)) {z : Int64} {M : mm_M} : ∀ (n : Nat) (x2 : Int32) (x3 : Int32) (x4 : Int64) (x6 : Int32) (H : Heap) (locs : List Loc) (ls : Array Slot), f_X6_weightOf_13l M n x2 x3 x4 x6 = some z → wd_in cx_T D cy z0 ad u M X s H locs → lv_has ls 7 [(0, .ref (ad 19)), (2, .int x2), (3, .int x3), (4, .long x4), (6, .int x6)] → W p l e { frames := 0, cells := 0, slots := 0, locals := 0 } s m args below meth c H locs 0 0 (MQ below (cq_l cx_T D cy z0 ad u X z M) args s 0 0 (fun q => z0 ≤ q)) (F0 m 13 ls []) := by
  intro n
  induction n with
  | zero => intro x2 x3 x4 x6 H locs ls hf; exact absurd hf (by simp [f_X6_weightOf_13l])
  | succ n ih => intro x2 x3 x4 x6 H locs ls hf hw hl; exact k_X6_weightOf_13 hC ih hf hw hl
set_option maxRecDepth 100000 in
set_option maxHeartbeats 4000000 in
theorem k_X6_weightOf {p : Program} {l : Launch} {e : Env} {s : State} {m : MethodId} {args : Array Value} {below : List Frame} {meth : Method} {c : Code} {D : va_G} {cy : Nat → ClassId} {z0 : Nat} {ad : Nat → Nat} {X : va_W} {u : Nat × Nat} (hC : cx_C p s m args meth c cX6_weightOf "RhymedThen$Signs" (Cond.code yX6_weightOf cX6_weightOf 7 (some .long)) 7 (some .long)) {z : Int64} {x1 : Int32} {x2 : Int32} {M : mm_M} (hf : f_X6_weightOf x1 x2 M = some z) {H : Heap} {locs : List Loc} (hw : wd_in cx_T D cy z0 ad u M X s H locs) {ls : Array Slot} (hl : lv_has ls 7 [(0, .ref (ad 19)), (1, .int x1), (2, .int x2)]) : W p l e { frames := 0, cells := 0, slots := 0, locals := 0 } s m args below meth c H locs 0 0 (MQ below (cq_l cx_T D cy z0 ad u X z M) args s 0 0 (fun q => z0 ≤ q)) (F0 m 0 ls []) := by
  have hx := hC.1
  have hb := hC.2.1
  unfold f_X6_weightOf at hf
  refine lv_aload_n hx hb dX6_weightOf_0 rfl (lv_at hl 0 rfl) ?_
  refine rg_p hC hw 19 (Nat.le_of_ble_eq_true rfl) rfl fd_X6_5 wf_X6_24 (q := 21) rfl dX6_weightOf_1 ?_
  refine lv_iload_n hx hb dX6_weightOf_4 rfl (lv_at hl 1 rfl) ?_
  obtain ⟨h1, hf⟩ := ck_e hf
  refine ra_i hC hw 21 (Nat.le_of_ble_eq_true rfl) rfl h1 dX6_weightOf_5 ?_
  obtain ⟨y2, ey2, hf⟩ := sq_e hf
  refine lt_i ey2 ?_
  refine lv_istore_n (lv' := [(3, .int y2), (0, .ref (ad 19)), (1, .int x1), (2, .int x2)]) hx hb dX6_weightOf_6 rfl hl (by decide) rfl (fun ls hl => ?_)
  refine lv_lconst (v := 1) hx hb dX6_weightOf_7 (by decide) ?_
  refine lv_lstore (lv' := [(4, .long 1), (3, .int y2), (0, .ref (ad 19)), (1, .int x1), (2, .int x2)]) hx hb dX6_weightOf_8 hl (by decide) rfl (fun ls hl => ?_)
  refine lv_iconst (v := 0) hx hb dX6_weightOf_10 (by decide) ?_
  refine lv_istore (lv' := [(6, .int 0), (4, .long 1), (3, .int y2), (0, .ref (ad 19)), (1, .int x1), (2, .int x2)]) hx hb dX6_weightOf_11 hl (by decide) rfl (fun ls hl => ?_)
  exact k_X6_weightOf_13l hC fu_ _ _ _ _ _ _ _ hf hw (lv_sub hl [3, 5, 2, 1, 0] rfl)
set_option maxRecDepth 100000 in
theorem c_X6_weightOf {l : Launch} {D : va_G} {cy : Nat → ClassId} {z0 : Nat} {ad : Nat → Nat} {u : Nat × Nat} {X : va_W} {z : Int64} {x1 : Int32} {x2 : Int32} {M : mm_M} (hf : f_X6_weightOf x1 x2 M = some z) : ct_l cx_T l yX6_weightOf (Cond.code yX6_weightOf cX6_weightOf 7 (some .long)) 0 0 D cy z0 ad u M X [.ref (ad 19), .int x1, .int x2] z M := by
  refine bgc_l (by decide) (fun p e s m below meth c hC hw => ?_)
  refine en_t (Nat.le_of_ble_eq_true rfl) (fun ls hl => ?_)
  have hl : lv_has ls 7 [(0, .ref (ad 19)), (1, .int x1), (2, .int x2)] := hl
  exact k_X6_weightOf hC hf hw hl
set_option maxRecDepth 100000 in
set_option maxHeartbeats 4000000 in
theorem k_X11_weighAll_5 {p : Program} {l : Launch} {e : Env} {s : State} {m : MethodId} {args : Array Value} {below : List Frame} {meth : Method} {c : Code} {D : va_G} {cy : Nat → ClassId} {z0 : Nat} {ad : Nat → Nat} {X : va_W} {u : Nat × Nat} (hC : cx_C p s m args meth c cX11_weighAll "RhymedThen" (Cond.code yX11_weighAll cX11_weighAll 5 (some .long)) 5 (some .long)) {z : (Int64 × mm_M)} {x1 : Int32} {x2 : Int64} {x4 : Int32} {M : mm_M} {q5 : Int32 → Int64 → Int32 → mm_M → Option (Int64 × mm_M)} (hq5 : ∀ (x1 : Int32) (x2 : Int64) (x4 : Int32) (M : mm_M) (H : Heap) (locs : List Loc) (ls : Array Slot), q5 x1 x2 x4 M = some z → wd_in cx_T D cy z0 ad u M X s H locs → lv_has ls 5 [(0, .ref (ad 0)), (1, .int x1), (2, .long x2), (4, .int x4)] → W p l e { frames := 1, cells := 0, slots := 0, locals := 26 } s m args below meth c H locs 0 0 (MQ below (cq_l cx_T D cy z0 ad u X z.1 z.2) args s 0 0 (fun q => z0 ≤ q)) (F0 m 5 ls [])) (hf : f_X11_weighAll_5 q5 x1 x2 x4 M = some z) {H : Heap} {locs : List Loc} (hw : wd_in cx_T D cy z0 ad u M X s H locs) {ls : Array Slot} (hl : lv_has ls 5 [(0, .ref (ad 0)), (1, .int x1), (2, .long x2), (4, .int x4)]) : W p l e { frames := 1, cells := 0, slots := 0, locals := 26 } s m args below meth c H locs 0 0 (MQ below (cq_l cx_T D cy z0 ad u X z.1 z.2) args s 0 0 (fun q => z0 ≤ q)) (F0 m 5 ls []) := by
  have hx := hC.1
  have hb := hC.2.1
  unfold f_X11_weighAll_5 at hf
  refine lv_iload hx hb dX11_weighAll_5 (lv_at hl 3 rfl) ?_
  refine lv_aload_n hx hb dX11_weighAll_7 rfl (lv_at hl 0 rfl) ?_
  refine rg_p hC hw 0 (Nat.le_of_ble_eq_true rfl) rfl fd_X11_3 wf_X11_35 (q := 14) rfl dX11_weighAll_8 ?_
  refine rg_i hC hw 14 (Nat.le_of_ble_eq_true rfl) rfl fd_X3_2 wf_X11_144 dX11_weighAll_11 ?_
  refine lv_icmp_ge (tgt := 50) hx hb dX11_weighAll_14 (by decide) (fun c1 => ?_) (fun c1 => ?_)
  · rw [if_pos c1] at hf
    refine lv_lload_n hx hb dX11_weighAll_50 rfl (lv_at hl 2 rfl) ?_
    have hz := Option.some.inj hf
    subst hz
    exact rtc_l hC hw dX11_weighAll_51
  · rw [if_neg c1] at hf
    refine lv_aload_n hx hb dX11_weighAll_17 rfl (lv_at hl 0 rfl) ?_
    refine rg_p hC hw 0 (Nat.le_of_ble_eq_true rfl) rfl fd_X11_10 wf_X11_79 (q := 67) rfl dX11_weighAll_18 ?_
    refine lv_iload hx hb dX11_weighAll_21 (lv_at hl 3 rfl) ?_
    refine lv_aload_n hx hb dX11_weighAll_23 rfl (lv_at hl 0 rfl) ?_
    refine rg_p hC hw 0 (Nat.le_of_ble_eq_true rfl) rfl fd_X11_4 wf_X11_44 (q := 19) rfl dX11_weighAll_24 ?_
    refine lv_iload hx hb dX11_weighAll_27 (lv_at hl 3 rfl) ?_
    refine lv_iload_n hx hb dX11_weighAll_29 rfl (lv_at hl 1 rfl) ?_
    obtain ⟨z2, ez2, hf⟩ := bd_e hf
    refine clc_Vl hC hw (c_X6_weightOf ez2) hd_X6_weightOf cw_X11_336 (Nat.le_of_ble_eq_true rfl) rfl rfl (rest := [.int x4, .ref (ad 67)]) hl.1 rfl (Nat.le_of_ble_eq_true rfl) ⟨Nat.le_of_ble_eq_true rfl, Nat.le_of_ble_eq_true rfl⟩ ⟨Nat.zero_le _, Nat.zero_le _⟩ rfl dX11_weighAll_30 (fun H locs hw => ?_)
    obtain ⟨h3, hf⟩ := ck_e hf
    obtain ⟨M4, eM4, hf⟩ := sq_e hf
    refine rs_l hC hw 67 (Nat.le_of_ble_eq_true rfl) rfl h3 dX11_weighAll_33 eM4 (fun H locs hw => ?_)
    refine lv_lload_n hx hb dX11_weighAll_34 rfl (lv_at hl 2 rfl) ?_
    refine lv_aload_n hx hb dX11_weighAll_35 rfl (lv_at hl 0 rfl) ?_
    refine rg_p hC hw 0 (Nat.le_of_ble_eq_true rfl) rfl fd_X11_10 wf_X11_79 (q := 67) rfl dX11_weighAll_36 ?_
    refine lv_iload hx hb dX11_weighAll_39 (lv_at hl 3 rfl) ?_
    obtain ⟨h5, hf⟩ := ck_e hf
    refine ra_l hC hw 67 (Nat.le_of_ble_eq_true rfl) rfl h5 dX11_weighAll_41 ?_
    refine lv_ladd hx hb dX11_weighAll_42 ?_
    obtain ⟨y6, ey6, hf⟩ := sq_e hf
    refine lt_l ey6 ?_
    refine lv_lstore_n (lv' := [(2, .long y6), (0, .ref (ad 0)), (1, .int x1), (4, .int x4)]) hx hb dX11_weighAll_43 rfl hl (by decide) rfl (fun ls hl => ?_)
    obtain ⟨y7, ey7, hf⟩ := sq_e hf
    refine lv_iinc (v := y7) (lv' := [(4, .int y7), (2, .long y6), (0, .ref (ad 0)), (1, .int x1)]) hx hb dX11_weighAll_44 hl (k := 3) rfl (by rw [ey7]; rfl) (by decide) rfl (fun ls hl => ?_)
    refine lv_goto (tgt := 5) hx hb dX11_weighAll_47 (by decide) ?_
    exact hq5 _ _ _ _ _ _ _ hf hw (lv_sub hl [2, 3, 1, 0] rfl)
set_option maxRecDepth 100000 in
set_option maxHeartbeats 4000000 in
theorem k_X11_weighAll_5l {p : Program} {l : Launch} {e : Env} {s : State} {m : MethodId} {args : Array Value} {below : List Frame} {meth : Method} {c : Code} {D : va_G} {cy : Nat → ClassId} {z0 : Nat} {ad : Nat → Nat} {X : va_W} {u : Nat × Nat} (hC : cx_C p s m args meth c cX11_weighAll "RhymedThen" (Cond.code yX11_weighAll cX11_weighAll 5 (some .long)) 5 (some .long)) {z : (Int64 × mm_M)} : ∀ (n : Nat) (x1 : Int32) (x2 : Int64) (x4 : Int32) (M : mm_M) (H : Heap) (locs : List Loc) (ls : Array Slot), f_X11_weighAll_5l n x1 x2 x4 M = some z → wd_in cx_T D cy z0 ad u M X s H locs → lv_has ls 5 [(0, .ref (ad 0)), (1, .int x1), (2, .long x2), (4, .int x4)] → W p l e { frames := 1, cells := 0, slots := 0, locals := 26 } s m args below meth c H locs 0 0 (MQ below (cq_l cx_T D cy z0 ad u X z.1 z.2) args s 0 0 (fun q => z0 ≤ q)) (F0 m 5 ls []) := by
  intro n
  induction n with
  | zero => intro x1 x2 x4 M H locs ls hf; exact absurd hf (by simp [f_X11_weighAll_5l])
  | succ n ih => intro x1 x2 x4 M H locs ls hf hw hl; exact k_X11_weighAll_5 hC ih hf hw hl
set_option maxRecDepth 100000 in
set_option maxHeartbeats 4000000 in
theorem k_X11_weighAll {p : Program} {l : Launch} {e : Env} {s : State} {m : MethodId} {args : Array Value} {below : List Frame} {meth : Method} {c : Code} {D : va_G} {cy : Nat → ClassId} {z0 : Nat} {ad : Nat → Nat} {X : va_W} {u : Nat × Nat} (hC : cx_C p s m args meth c cX11_weighAll "RhymedThen" (Cond.code yX11_weighAll cX11_weighAll 5 (some .long)) 5 (some .long)) {z : (Int64 × mm_M)} {x1 : Int32} {M : mm_M} (hf : f_X11_weighAll x1 M = some z) {H : Heap} {locs : List Loc} (hw : wd_in cx_T D cy z0 ad u M X s H locs) {ls : Array Slot} (hl : lv_has ls 5 [(0, .ref (ad 0)), (1, .int x1)]) : W p l e { frames := 1, cells := 0, slots := 0, locals := 26 } s m args below meth c H locs 0 0 (MQ below (cq_l cx_T D cy z0 ad u X z.1 z.2) args s 0 0 (fun q => z0 ≤ q)) (F0 m 0 ls []) := by
  have hx := hC.1
  have hb := hC.2.1
  unfold f_X11_weighAll at hf
  refine lv_lconst (v := 0) hx hb dX11_weighAll_0 (by decide) ?_
  refine lv_lstore_n (lv' := [(2, .long 0), (0, .ref (ad 0)), (1, .int x1)]) hx hb dX11_weighAll_1 rfl hl (by decide) rfl (fun ls hl => ?_)
  refine lv_iconst (v := 0) hx hb dX11_weighAll_2 (by decide) ?_
  refine lv_istore (lv' := [(4, .int 0), (2, .long 0), (0, .ref (ad 0)), (1, .int x1)]) hx hb dX11_weighAll_3 hl (by decide) rfl (fun ls hl => ?_)
  exact k_X11_weighAll_5l hC fu_ _ _ _ _ _ _ _ hf hw (lv_sub hl [2, 3, 1, 0] rfl)
set_option maxRecDepth 100000 in
theorem c_X11_weighAll {l : Launch} {D : va_G} {cy : Nat → ClassId} {z0 : Nat} {ad : Nat → Nat} {u : Nat × Nat} {X : va_W} {z : (Int64 × mm_M)} {x1 : Int32} {M : mm_M} (hf : f_X11_weighAll x1 M = some z) : ct_l cx_T l yX11_weighAll (Cond.code yX11_weighAll cX11_weighAll 5 (some .long)) 1 26 D cy z0 ad u M X [.ref (ad 0), .int x1] z.1 z.2 := by
  refine bgc_l (by decide) (fun p e s m below meth c hC hw => ?_)
  refine en_t (Nat.le_of_ble_eq_true rfl) (fun ls hl => ?_)
  have hl : lv_has ls 5 [(0, .ref (ad 0)), (1, .int x1)] := hl
  exact k_X11_weighAll hC hf hw hl
set_option maxRecDepth 100000 in
set_option maxHeartbeats 4000000 in
theorem k_X11_odds_94 {p : Program} {l : Launch} {e : Env} {s : State} {m : MethodId} {args : Array Value} {below : List Frame} {meth : Method} {c : Code} {D : va_G} {cy : Nat → ClassId} {z0 : Nat} {ad : Nat → Nat} {X : va_W} {u : Nat × Nat} (hC : cx_C p s m args meth c cX11_odds "RhymedThen" (Cond.code yX11_odds cX11_odds 8 (some .int)) 8 (some .int)) {z : (Int32 × mm_M)} {c0 : Nat} {x1 : Int32} {x3 : Int64} {x5 : Int64} {x7 : Int32} {M : mm_M} (hc0 : c0 ≤ M.2.2) {q54 : Int32 → Int64 → Int64 → Int32 → mm_M → Option (Int32 × mm_M)} (hq54 : ∀ (x1 : Int32) (x3 : Int64) (x5 : Int64) (x7 : Int32) (M : mm_M) (u : Nat × Nat) (H : Heap) (locs : List Loc) (ls : Array Slot), c0 ≤ M.2.2 → q54 x1 x3 x5 x7 M = some z → wd_in cx_T D cy z0 ad u M X s H locs → lv_has ls 8 [(0, .ref (ad 0)), (1, .int x1), (3, .long x3), (5, .long x5), (7, .int x7)] → W p l e { frames := 8, cells := 2 * (z.2.2.2 - c0), slots := 52 * (z.2.2.2 - c0), locals := 238 } s m args below meth c H locs (2 * (M.2.2 - c0)) (52 * (M.2.2 - c0)) (MQ below (aq_i cx_T D cy z0 ad X z.1 z.2) args s (2 * (z.2.2.2 - c0)) (52 * (z.2.2.2 - c0)) (fun q => z0 ≤ q)) (F0 m 54 ls [])) (hm54 : ∀ (x1 : Int32) (x3 : Int64) (x5 : Int64) (x7 : Int32) (M : mm_M), q54 x1 x3 x5 x7 M = some z → M.2.2 ≤ z.2.2.2) (hf : f_X11_odds_94 q54 x1 x3 x5 x7 M = some z) {H : Heap} {locs : List Loc} (hw : wd_in cx_T D cy z0 ad u M X s H locs) {ls : Array Slot} (hl : lv_has ls 8 [(0, .ref (ad 0)), (1, .int x1), (3, .long x3), (5, .long x5), (7, .int x7)]) : W p l e { frames := 8, cells := 2 * (z.2.2.2 - c0), slots := 52 * (z.2.2.2 - c0), locals := 238 } s m args below meth c H locs (2 * (M.2.2 - c0)) (52 * (M.2.2 - c0)) (MQ below (aq_i cx_T D cy z0 ad X z.1 z.2) args s (2 * (z.2.2.2 - c0)) (52 * (z.2.2.2 - c0)) (fun q => z0 ≤ q)) (F0 m 94 ls []) := by
  have hx := hC.1
  have hb := hC.2.1
  have hmz : M.2.2 ≤ z.2.2.2 := mo_X11_odds_94 hm54 hf
  unfold f_X11_odds_94 at hf
  obtain ⟨y15, ey15, hf⟩ := sq_e hf
  refine lv_iinc (v := y15) (lv' := [(7, .int y15), (0, .ref (ad 0)), (1, .int x1), (3, .long x3), (5, .long x5)]) hx hb dX11_odds_94 hl (k := 4) rfl (by rw [ey15]; rfl) (by decide) rfl (fun ls hl => ?_)
  refine lv_goto (tgt := 54) hx hb dX11_odds_97 (by decide) ?_
  refine W.widen (k := 2 * (M.2.2 - c0)) (n := 52 * (M.2.2 - c0)) (by omega) (by omega) ?_
  exact hq54 _ _ _ _ _ _ _ _ _ (by omega) hf hw (lv_sub hl [1, 2, 3, 4, 0] rfl)
set_option maxRecDepth 100000 in
set_option maxHeartbeats 4000000 in
theorem k_X11_odds_100 {p : Program} {l : Launch} {e : Env} {s : State} {m : MethodId} {args : Array Value} {below : List Frame} {meth : Method} {c : Code} {D : va_G} {cy : Nat → ClassId} {z0 : Nat} {ad : Nat → Nat} {X : va_W} {u : Nat × Nat} (hC : cx_C p s m args meth c cX11_odds "RhymedThen" (Cond.code yX11_odds cX11_odds 8 (some .int)) 8 (some .int)) {z : (Int32 × mm_M)} {c0 : Nat} {x3 : Int64} {x5 : Int64} {M : mm_M} (hc0 : c0 ≤ M.2.2) (hf : f_X11_odds_100 x3 x5 M = some z) {H : Heap} {locs : List Loc} (hw : wd_in cx_T D cy z0 ad u M X s H locs) {ls : Array Slot} (hl : lv_has ls 8 [(0, .ref (ad 0)), (3, .long x3), (5, .long x5)]) : W p l e { frames := 8, cells := 2 * (z.2.2.2 - c0), slots := 52 * (z.2.2.2 - c0), locals := 238 } s m args below meth c H locs (2 * (M.2.2 - c0)) (52 * (M.2.2 - c0)) (MQ below (aq_i cx_T D cy z0 ad X z.1 z.2) args s (2 * (z.2.2.2 - c0)) (52 * (z.2.2.2 - c0)) (fun q => z0 ≤ q)) (F0 m 100 ls []) := by
  have hx := hC.1
  have hb := hC.2.1
  have hmz : M.2.2 ≤ z.2.2.2 := mo_X11_odds_100 hf
  unfold f_X11_odds_100 at hf
  refine lv_aload_n hx hb dX11_odds_100 rfl (lv_at hl 0 rfl) ?_
  refine rg_p hC hw 0 (Nat.le_of_ble_eq_true rfl) rfl fd_X11_1 wf_X11_19 (q := 3) rfl dX11_odds_101 ?_
  obtain ⟨z13, ez13, hf⟩ := sq_e hf
  have mz13 : M.2.2 ≤ z13.2.2 := mo_X4_clear ez13.symm
  refine clc_Vv hC hw (c_X4_clear ez13.symm) hd_X4_clear cw_X11_192 (Nat.le_of_ble_eq_true rfl) rfl rfl (rest := []) hl.1 rfl (Nat.le_of_ble_eq_true rfl) ⟨Nat.le_of_ble_eq_true rfl, Nat.le_of_ble_eq_true rfl⟩ ⟨(show 2 * (M.2.2 - c0) ≤ 2 * (z.2.2.2 - c0) by omega), (show 52 * (M.2.2 - c0) ≤ 52 * (z.2.2.2 - c0) by omega)⟩ rfl dX11_odds_104 (fun H locs hw => ?_)
  refine lv_aload_n hx hb dX11_odds_107 rfl (lv_at hl 0 rfl) ?_
  refine rg_p hC hw 0 (Nat.le_of_ble_eq_true rfl) rfl fd_X11_1 wf_X11_19 (q := 3) rfl dX11_odds_108 ?_
  refine lv_lload hx hb dX11_odds_111 (lv_at hl 2 rfl) ?_
  refine lv_lload_n hx hb dX11_odds_113 rfl (lv_at hl 1 rfl) ?_
  obtain ⟨z14, ez14, hf⟩ := bd_e hf
  have mz14 : z13.2.2 ≤ z14.2.2 := mo_X4_addFraction ez14
  refine clc_Vv hC hw (c_X4_addFraction ez14) hd_X4_addFraction cw_X11_231 (Nat.le_of_ble_eq_true rfl) rfl rfl (rest := []) hl.1 rfl (Nat.le_of_ble_eq_true rfl) ⟨Nat.le_of_ble_eq_true rfl, Nat.le_of_ble_eq_true rfl⟩ ⟨(show 2 * (M.2.2 - c0) ≤ 2 * (z.2.2.2 - c0) by omega), (show 52 * (M.2.2 - c0) ≤ 52 * (z.2.2.2 - c0) by omega)⟩ rfl dX11_odds_114 (fun H locs hw => ?_)
  refine lv_iconst (v := 0) hx hb dX11_odds_117 (by decide) ?_
  refine W.widen (k := 2 * (z.2.2.2 - c0)) (n := 52 * (z.2.2.2 - c0)) (by omega) (by omega) ?_
  have hz := Option.some.inj hf
  subst hz
  exact rta_i hC hw dX11_odds_118
set_option maxRecDepth 100000 in
set_option maxHeartbeats 4000000 in
theorem k_X11_odds_54 {p : Program} {l : Launch} {e : Env} {s : State} {m : MethodId} {args : Array Value} {below : List Frame} {meth : Method} {c : Code} {D : va_G} {cy : Nat → ClassId} {z0 : Nat} {ad : Nat → Nat} {X : va_W} {u : Nat × Nat} (hC : cx_C p s m args meth c cX11_odds "RhymedThen" (Cond.code yX11_odds cX11_odds 8 (some .int)) 8 (some .int)) {z : (Int32 × mm_M)} {c0 : Nat} {x1 : Int32} {x3 : Int64} {x5 : Int64} {x7 : Int32} {M : mm_M} (hc0 : c0 ≤ M.2.2) {q54 : Int32 → Int64 → Int64 → Int32 → mm_M → Option (Int32 × mm_M)} (hq54 : ∀ (x1 : Int32) (x3 : Int64) (x5 : Int64) (x7 : Int32) (M : mm_M) (u : Nat × Nat) (H : Heap) (locs : List Loc) (ls : Array Slot), c0 ≤ M.2.2 → q54 x1 x3 x5 x7 M = some z → wd_in cx_T D cy z0 ad u M X s H locs → lv_has ls 8 [(0, .ref (ad 0)), (1, .int x1), (3, .long x3), (5, .long x5), (7, .int x7)] → W p l e { frames := 8, cells := 2 * (z.2.2.2 - c0), slots := 52 * (z.2.2.2 - c0), locals := 238 } s m args below meth c H locs (2 * (M.2.2 - c0)) (52 * (M.2.2 - c0)) (MQ below (aq_i cx_T D cy z0 ad X z.1 z.2) args s (2 * (z.2.2.2 - c0)) (52 * (z.2.2.2 - c0)) (fun q => z0 ≤ q)) (F0 m 54 ls [])) (hm54 : ∀ (x1 : Int32) (x3 : Int64) (x5 : Int64) (x7 : Int32) (M : mm_M), q54 x1 x3 x5 x7 M = some z → M.2.2 ≤ z.2.2.2) (hf : f_X11_odds_54 q54 x1 x3 x5 x7 M = some z) {H : Heap} {locs : List Loc} (hw : wd_in cx_T D cy z0 ad u M X s H locs) {ls : Array Slot} (hl : lv_has ls 8 [(0, .ref (ad 0)), (1, .int x1), (3, .long x3), (5, .long x5), (7, .int x7)]) : W p l e { frames := 8, cells := 2 * (z.2.2.2 - c0), slots := 52 * (z.2.2.2 - c0), locals := 238 } s m args below meth c H locs (2 * (M.2.2 - c0)) (52 * (M.2.2 - c0)) (MQ below (aq_i cx_T D cy z0 ad X z.1 z.2) args s (2 * (z.2.2.2 - c0)) (52 * (z.2.2.2 - c0)) (fun q => z0 ≤ q)) (F0 m 54 ls []) := by
  have hx := hC.1
  have hb := hC.2.1
  have hmz : M.2.2 ≤ z.2.2.2 := mo_X11_odds_54 hm54 hf
  unfold f_X11_odds_54 at hf
  refine lv_iload hx hb dX11_odds_54 (lv_at hl 4 rfl) ?_
  refine lv_aload_n hx hb dX11_odds_56 rfl (lv_at hl 0 rfl) ?_
  refine rg_p hC hw 0 (Nat.le_of_ble_eq_true rfl) rfl fd_X11_3 wf_X11_35 (q := 14) rfl dX11_odds_57 ?_
  refine rg_i hC hw 14 (Nat.le_of_ble_eq_true rfl) rfl fd_X3_2 wf_X11_144 dX11_odds_60 ?_
  refine lv_icmp_ge (tgt := 100) hx hb dX11_odds_63 (by decide) (fun c8 => ?_) (fun c8 => ?_)
  · rw [if_pos c8] at hf
    refine W.widen (k := 2 * (M.2.2 - c0)) (n := 52 * (M.2.2 - c0)) (by omega) (by omega) ?_
    exact k_X11_odds_100 hC (by omega) hf hw (lv_sub hl [0, 2, 3] rfl)
  · rw [if_neg c8] at hf
    refine lv_aload_n hx hb dX11_odds_66 rfl (lv_at hl 0 rfl) ?_
    refine rg_p hC hw 0 (Nat.le_of_ble_eq_true rfl) rfl fd_X11_4 wf_X11_44 (q := 19) rfl dX11_odds_67 ?_
    refine lv_iload hx hb dX11_odds_70 (lv_at hl 4 rfl) ?_
    obtain ⟨z9, ez9, hf⟩ := bd_e hf
    refine clc_Vi hC hw (c_X6_heldBy ez9) hd_X6_heldBy cw_X11_289 (Nat.le_of_ble_eq_true rfl) rfl rfl (rest := []) hl.1 rfl (Nat.le_of_ble_eq_true rfl) ⟨Nat.le_of_ble_eq_true rfl, Nat.le_of_ble_eq_true rfl⟩ ⟨(show 2 * (M.2.2 - c0) ≤ 2 * (z.2.2.2 - c0) by omega), (show 52 * (M.2.2 - c0) ≤ 52 * (z.2.2.2 - c0) by omega)⟩ rfl dX11_odds_72 (fun H locs hw => ?_)
    refine lv_iload_n hx hb dX11_odds_75 rfl (lv_at hl 1 rfl) ?_
    refine lv_ishr hx hb dX11_odds_76 ?_
    refine lv_iconst (v := 1) hx hb dX11_odds_77 (by decide) ?_
    refine lv_iand hx hb dX11_odds_78 ?_
    refine lv_if_eq (tgt := 94) hx hb dX11_odds_79 (by decide) (fun c10 => ?_) (fun c10 => ?_)
    · rw [if_pos c10] at hf
      refine W.widen (k := 2 * (M.2.2 - c0)) (n := 52 * (M.2.2 - c0)) (by omega) (by omega) ?_
      exact k_X11_odds_94 hC (by omega) hq54 hm54 hf hw (lv_sub hl [0, 1, 2, 3, 4] rfl)
    · rw [if_neg c10] at hf
      refine lv_lload hx hb dX11_odds_82 (lv_at hl 3 rfl) ?_
      refine lv_aload_n hx hb dX11_odds_84 rfl (lv_at hl 0 rfl) ?_
      refine rg_p hC hw 0 (Nat.le_of_ble_eq_true rfl) rfl fd_X11_10 wf_X11_79 (q := 67) rfl dX11_odds_85 ?_
      refine lv_iload hx hb dX11_odds_88 (lv_at hl 4 rfl) ?_
      obtain ⟨h11, hf⟩ := ck_e hf
      refine ra_l hC hw 67 (Nat.le_of_ble_eq_true rfl) rfl h11 dX11_odds_90 ?_
      refine lv_ladd hx hb dX11_odds_91 ?_
      obtain ⟨y12, ey12, hf⟩ := sq_e hf
      refine lt_l ey12 ?_
      refine lv_lstore (lv' := [(5, .long y12), (0, .ref (ad 0)), (1, .int x1), (3, .long x3), (7, .int x7)]) hx hb dX11_odds_92 hl (by decide) rfl (fun ls hl => ?_)
      refine W.widen (k := 2 * (M.2.2 - c0)) (n := 52 * (M.2.2 - c0)) (by omega) (by omega) ?_
      exact k_X11_odds_94 hC (by omega) hq54 hm54 hf hw (lv_sub hl [1, 2, 3, 0, 4] rfl)
set_option maxRecDepth 100000 in
set_option maxHeartbeats 4000000 in
theorem k_X11_odds_54l {p : Program} {l : Launch} {e : Env} {s : State} {m : MethodId} {args : Array Value} {below : List Frame} {meth : Method} {c : Code} {D : va_G} {cy : Nat → ClassId} {z0 : Nat} {ad : Nat → Nat} {X : va_W} (hC : cx_C p s m args meth c cX11_odds "RhymedThen" (Cond.code yX11_odds cX11_odds 8 (some .int)) 8 (some .int)) {z : (Int32 × mm_M)} {c0 : Nat} : ∀ (n : Nat) (x1 : Int32) (x3 : Int64) (x5 : Int64) (x7 : Int32) (M : mm_M) (u : Nat × Nat) (H : Heap) (locs : List Loc) (ls : Array Slot), c0 ≤ M.2.2 → f_X11_odds_54l n x1 x3 x5 x7 M = some z → wd_in cx_T D cy z0 ad u M X s H locs → lv_has ls 8 [(0, .ref (ad 0)), (1, .int x1), (3, .long x3), (5, .long x5), (7, .int x7)] → W p l e { frames := 8, cells := 2 * (z.2.2.2 - c0), slots := 52 * (z.2.2.2 - c0), locals := 238 } s m args below meth c H locs (2 * (M.2.2 - c0)) (52 * (M.2.2 - c0)) (MQ below (aq_i cx_T D cy z0 ad X z.1 z.2) args s (2 * (z.2.2.2 - c0)) (52 * (z.2.2.2 - c0)) (fun q => z0 ≤ q)) (F0 m 54 ls []) := by
  intro n
  induction n with
  | zero => intro x1 x3 x5 x7 M u H locs ls hc0 hf; exact absurd hf (by simp [f_X11_odds_54l])
  | succ n ih => intro x1 x3 x5 x7 M u H locs ls hc0 hf hw hl; exact k_X11_odds_54 hC hc0 ih (mo_X11_odds_54l n) hf hw hl
set_option maxRecDepth 100000 in
set_option maxHeartbeats 4000000 in
theorem k_X11_odds_42 {p : Program} {l : Launch} {e : Env} {s : State} {m : MethodId} {args : Array Value} {below : List Frame} {meth : Method} {c : Code} {D : va_G} {cy : Nat → ClassId} {z0 : Nat} {ad : Nat → Nat} {X : va_W} {u : Nat × Nat} (hC : cx_C p s m args meth c cX11_odds "RhymedThen" (Cond.code yX11_odds cX11_odds 8 (some .int)) 8 (some .int)) {z : (Int32 × mm_M)} {c0 : Nat} {x1 : Int32} {x2 : Int32} {M : mm_M} (hc0 : c0 ≤ M.2.2) (hf : f_X11_odds_42 x1 x2 M = some z) {H : Heap} {locs : List Loc} (hw : wd_in cx_T D cy z0 ad u M X s H locs) {ls : Array Slot} (hl : lv_has ls 8 [(0, .ref (ad 0)), (1, .int x1), (2, .int x2)]) : W p l e { frames := 8, cells := 2 * (z.2.2.2 - c0), slots := 52 * (z.2.2.2 - c0), locals := 238 } s m args below meth c H locs (2 * (M.2.2 - c0)) (52 * (M.2.2 - c0)) (MQ below (aq_i cx_T D cy z0 ad X z.1 z.2) args s (2 * (z.2.2.2 - c0)) (52 * (z.2.2.2 - c0)) (fun q => z0 ≤ q)) (F0 m 42 ls []) := by
  have hx := hC.1
  have hb := hC.2.1
  have hmz : M.2.2 ≤ z.2.2.2 := mo_X11_odds_42 hf
  unfold f_X11_odds_42 at hf
  refine lv_aload_n hx hb dX11_odds_42 rfl (lv_at hl 0 rfl) ?_
  refine lv_iload_n hx hb dX11_odds_43 rfl (lv_at hl 2 rfl) ?_
  obtain ⟨z7, ez7, hf⟩ := bd_e hf
  have mz7 : M.2.2 ≤ z7.2.2.2 := mo_X11_weighAll ez7
  refine clc_Vl hC hw (c_X11_weighAll ez7) hd_X11_weighAll cw_X11_332 (Nat.le_of_ble_eq_true rfl) rfl rfl (rest := []) hl.1 rfl (Nat.le_of_ble_eq_true rfl) ⟨Nat.le_of_ble_eq_true rfl, Nat.le_of_ble_eq_true rfl⟩ ⟨(show 2 * (M.2.2 - c0) ≤ 2 * (z.2.2.2 - c0) by omega), (show 52 * (M.2.2 - c0) ≤ 52 * (z.2.2.2 - c0) by omega)⟩ rfl dX11_odds_44 (fun H locs hw => ?_)
  refine lv_lstore_n (lv' := [(3, .long z7.1), (0, .ref (ad 0)), (1, .int x1), (2, .int x2)]) hx hb dX11_odds_47 rfl hl (by decide) rfl (fun ls hl => ?_)
  refine lv_lconst (v := 0) hx hb dX11_odds_48 (by decide) ?_
  refine lv_lstore (lv' := [(5, .long 0), (3, .long z7.1), (0, .ref (ad 0)), (1, .int x1), (2, .int x2)]) hx hb dX11_odds_49 hl (by decide) rfl (fun ls hl => ?_)
  refine lv_iconst (v := 0) hx hb dX11_odds_51 (by decide) ?_
  refine lv_istore (lv' := [(7, .int 0), (5, .long 0), (3, .long z7.1), (0, .ref (ad 0)), (1, .int x1), (2, .int x2)]) hx hb dX11_odds_52 hl (by decide) rfl (fun ls hl => ?_)
  refine W.widen (k := 2 * (z7.2.2.2 - c0)) (n := 52 * (z7.2.2.2 - c0)) (by omega) (by omega) ?_
  exact k_X11_odds_54l hC fu_ _ _ _ _ _ _ _ _ _ (by omega) hf hw (lv_sub hl [3, 4, 2, 1, 0] rfl)
set_option maxRecDepth 100000 in
set_option maxHeartbeats 4000000 in
theorem k_X11_odds {p : Program} {l : Launch} {e : Env} {s : State} {m : MethodId} {args : Array Value} {below : List Frame} {meth : Method} {c : Code} {D : va_G} {cy : Nat → ClassId} {z0 : Nat} {ad : Nat → Nat} {X : va_W} {u : Nat × Nat} (hC : cx_C p s m args meth c cX11_odds "RhymedThen" (Cond.code yX11_odds cX11_odds 8 (some .int)) 8 (some .int)) {z : (Int32 × mm_M)} {c0 : Nat} {x1 : Int32} {M : mm_M} (hc0 : c0 ≤ M.2.2) (hf : f_X11_odds x1 M = some z) {H : Heap} {locs : List Loc} (hw : wd_in cx_T D cy z0 ad u M X s H locs) {ls : Array Slot} (hl : lv_has ls 8 [(0, .ref (ad 0)), (1, .int x1)]) : W p l e { frames := 8, cells := 2 * (z.2.2.2 - c0), slots := 52 * (z.2.2.2 - c0), locals := 238 } s m args below meth c H locs (2 * (M.2.2 - c0)) (52 * (M.2.2 - c0)) (MQ below (aq_i cx_T D cy z0 ad X z.1 z.2) args s (2 * (z.2.2.2 - c0)) (52 * (z.2.2.2 - c0)) (fun q => z0 ≤ q)) (F0 m 0 ls []) := by
  have hx := hC.1
  have hb := hC.2.1
  have hmz : M.2.2 ≤ z.2.2.2 := mo_X11_odds hf
  unfold f_X11_odds at hf
  refine lv_aload_n hx hb dX11_odds_0 rfl (lv_at hl 0 rfl) ?_
  refine lv_iload_n hx hb dX11_odds_1 rfl (lv_at hl 1 rfl) ?_
  obtain ⟨z1, ez1, hf⟩ := sq_e hf
  refine clc_Vi hC hw (c_X11_isSign ez1.symm) hd_X11_isSign cw_X11_274 (Nat.le_of_ble_eq_true rfl) rfl rfl (rest := []) hl.1 rfl (Nat.le_of_ble_eq_true rfl) ⟨Nat.le_of_ble_eq_true rfl, Nat.le_of_ble_eq_true rfl⟩ ⟨(show 2 * (M.2.2 - c0) ≤ 2 * (z.2.2.2 - c0) by omega), (show 52 * (M.2.2 - c0) ≤ 52 * (z.2.2.2 - c0) by omega)⟩ rfl dX11_odds_2 (fun H locs hw => ?_)
  refine lv_if_ne (tgt := 10) hx hb dX11_odds_5 (by decide) (fun c2 => ?_) (fun c2 => ?_)
  · rw [if_neg c2] at hf
    refine lv_aload_n hx hb dX11_odds_10 rfl (lv_at hl 0 rfl) ?_
    refine rg_p hC hw 0 (Nat.le_of_ble_eq_true rfl) rfl fd_X11_4 wf_X11_44 (q := 19) rfl dX11_odds_11 ?_
    refine rg_i hC hw 19 (Nat.le_of_ble_eq_true rfl) rfl fd_X6_4 wf_X11_283 dX11_odds_14 ?_
    refine lv_iconst (v := 1) hx hb dX11_odds_17 (by decide) ?_
    refine lv_iload_n hx hb dX11_odds_18 rfl (lv_at hl 1 rfl) ?_
    refine lv_ishl hx hb dX11_odds_19 ?_
    refine lv_iconst (v := (-1)) hx hb dX11_odds_20 (by decide) ?_
    refine lv_ixor hx hb dX11_odds_21 ?_
    refine lv_iand hx hb dX11_odds_22 ?_
    obtain ⟨y3, ey3, hf⟩ := sq_e hf
    refine lt_i ey3 ?_
    refine lv_istore_n (lv' := [(2, .int y3), (0, .ref (ad 0)), (1, .int x1)]) hx hb dX11_odds_23 rfl hl (by decide) rfl (fun ls hl => ?_)
    refine lv_iload_n hx hb dX11_odds_24 rfl (lv_at hl 0 rfl) ?_
    obtain ⟨z4, ez4, hf⟩ := sq_e hf
    refine clc_Si hC hw (c_J6_bitCount_0f7a4 ez4.symm) hd_J6_bitCount_0f7a4 cw_X11_308 (rest := []) hl.1 rfl (Nat.le_of_ble_eq_true rfl) ⟨Nat.le_of_ble_eq_true rfl, Nat.le_of_ble_eq_true rfl⟩ ⟨(show 2 * (M.2.2 - c0) ≤ 2 * (z.2.2.2 - c0) by omega), (show 52 * (M.2.2 - c0) ≤ 52 * (z.2.2.2 - c0) by omega)⟩ rfl dX11_odds_25 (fun H locs hw => ?_)
    refine lv_bipush (v := 12) hx hb dX11_odds_28 (by decide) ?_
    refine lv_icmp_le (tgt := 35) hx hb dX11_odds_30 (by decide) (fun c5 => ?_) (fun c5 => ?_)
    · rw [if_pos c5] at hf
      refine lv_aload_n hx hb dX11_odds_35 rfl (lv_at hl 1 rfl) ?_
      refine rg_p hC hw 0 (Nat.le_of_ble_eq_true rfl) rfl fd_X11_4 wf_X11_44 (q := 19) rfl dX11_odds_36 ?_
      obtain ⟨z6, ez6, hf⟩ := bd_e hf
      have mz6 : M.2.2 ≤ z6.2.2 := mo_X6_lookAnew ez6
      have hnz : z6.2.2 ≤ z.2.2.2 := mo_X11_odds_42 hf
      refine cla_Vv hC hw (c_X6_lookAnew ez6) hd_X6_lookAnew cw_X11_286 (Nat.le_of_ble_eq_true rfl) rfl rfl (rest := []) hl.1 rfl (Nat.le_of_ble_eq_true rfl) ⟨Nat.le_of_ble_eq_true rfl, Nat.le_of_ble_eq_true rfl⟩ ⟨(show 2 * (M.2.2 - c0) + 2 * (z6.2.2 - M.2.2) ≤ 2 * (z.2.2.2 - c0) by omega), (show 52 * (M.2.2 - c0) + 52 * (z6.2.2 - M.2.2) ≤ 52 * (z.2.2.2 - c0) by omega)⟩ rfl dX11_odds_39 (fun u H locs hw => ?_)
      refine W.widen (k := 2 * (z6.2.2 - c0)) (n := 52 * (z6.2.2 - c0)) (by omega) (by omega) ?_
      exact k_X11_odds_42 hC (by omega) hf hw (lv_sub hl [1, 2, 0] rfl)
    · rw [if_neg c5] at hf
      refine lv_iconst (v := (-1)) hx hb dX11_odds_33 (by decide) ?_
      refine W.widen (k := 2 * (z.2.2.2 - c0)) (n := 52 * (z.2.2.2 - c0)) (by omega) (by omega) ?_
      have hz := Option.some.inj hf
      subst hz
      exact rta_i hC hw dX11_odds_34
  · rw [if_pos c2] at hf
    refine lv_iconst (v := (-1)) hx hb dX11_odds_8 (by decide) ?_
    refine W.widen (k := 2 * (z.2.2.2 - c0)) (n := 52 * (z.2.2.2 - c0)) (by omega) (by omega) ?_
    have hz := Option.some.inj hf
    subst hz
    exact rta_i hC hw dX11_odds_9
set_option maxRecDepth 100000 in
theorem c_X11_odds {l : Launch} {D : va_G} {cy : Nat → ClassId} {z0 : Nat} {ad : Nat → Nat} {u : Nat × Nat} {X : va_W} {z : (Int32 × mm_M)} {x1 : Int32} {M : mm_M} (hf : f_X11_odds x1 M = some z) : ca_i cx_T l yX11_odds (Cond.code yX11_odds cX11_odds 8 (some .int)) 8 238 D cy z0 ad u M X [.ref (ad 0), .int x1] z.1 z.2 := by
  refine bga_i (by decide) (fun p e s m below meth c hC hw => ?_)
  refine en_t (Nat.le_of_ble_eq_true rfl) (fun ls hl => ?_)
  have hl : lv_has ls 8 [(0, .ref (ad 0)), (1, .int x1)] := hl
  refine W.widen (k := 2 * (M.2.2 - M.2.2)) (n := 52 * (M.2.2 - M.2.2)) (by omega) (by omega) ?_
  exact k_X11_odds hC (Nat.le_refl _) hf hw hl
set_option maxRecDepth 100000 in
set_option maxHeartbeats 4000000 in
theorem k_X11_tooManyToWeigh {p : Program} {l : Launch} {e : Env} {s : State} {m : MethodId} {args : Array Value} {below : List Frame} {meth : Method} {c : Code} {D : va_G} {cy : Nat → ClassId} {z0 : Nat} {ad : Nat → Nat} {X : va_W} {u : Nat × Nat} (hC : cx_C p s m args meth c cX11_tooManyToWeigh "RhymedThen" (Cond.code yX11_tooManyToWeigh cX11_tooManyToWeigh 1 (some .boolean)) 1 (some .boolean)) {z : Int32} {M : mm_M} (hf : f_X11_tooManyToWeigh M = z) {H : Heap} {locs : List Loc} (hw : wd_in cx_T D cy z0 ad u M X s H locs) {ls : Array Slot} (hl : lv_has ls 1 [(0, .ref (ad 0))]) : W p l e { frames := 1, cells := 0, slots := 0, locals := 20 } s m args below meth c H locs 0 0 (MQ below (cq_i cx_T D cy z0 ad u X z M) args s 0 0 (fun q => z0 ≤ q)) (F0 m 0 ls []) := by
  have hx := hC.1
  have hb := hC.2.1
  unfold f_X11_tooManyToWeigh at hf
  refine lv_aload_n hx hb dX11_tooManyToWeigh_0 rfl (lv_at hl 0 rfl) ?_
  refine rg_p hC hw 0 (Nat.le_of_ble_eq_true rfl) rfl fd_X11_4 wf_X11_44 (q := 19) rfl dX11_tooManyToWeigh_1 ?_
  refine rg_i hC hw 19 (Nat.le_of_ble_eq_true rfl) rfl fd_X6_4 wf_X11_283 dX11_tooManyToWeigh_4 ?_
  obtain ⟨z1, ez1, hf⟩ := sq_e hf
  refine clc_Si hC hw (c_J6_bitCount_0f7a4 ez1.symm) hd_J6_bitCount_0f7a4 cw_X11_308 (rest := []) hl.1 rfl (Nat.le_of_ble_eq_true rfl) ⟨Nat.le_of_ble_eq_true rfl, Nat.le_of_ble_eq_true rfl⟩ ⟨Nat.zero_le _, Nat.zero_le _⟩ rfl dX11_tooManyToWeigh_7 (fun H locs hw => ?_)
  refine lv_bipush (v := 12) hx hb dX11_tooManyToWeigh_10 (by decide) ?_
  refine lv_icmp_le (tgt := 19) hx hb dX11_tooManyToWeigh_12 (by decide) (fun c2 => ?_) (fun c2 => ?_)
  · rw [if_pos c2] at hf
    refine lv_iconst (v := 0) hx hb dX11_tooManyToWeigh_19 (by decide) ?_
    subst hf
    exact rtc_z hC hw (Or.inl rfl) dX11_tooManyToWeigh_20
  · rw [if_neg c2] at hf
    refine lv_iconst (v := 1) hx hb dX11_tooManyToWeigh_15 (by decide) ?_
    refine lv_goto (tgt := 20) hx hb dX11_tooManyToWeigh_16 (by decide) ?_
    subst hf
    exact rtc_z hC hw (Or.inr rfl) dX11_tooManyToWeigh_20
set_option maxRecDepth 100000 in
theorem c_X11_tooManyToWeigh {l : Launch} {D : va_G} {cy : Nat → ClassId} {z0 : Nat} {ad : Nat → Nat} {u : Nat × Nat} {X : va_W} {z : Int32} {M : mm_M} (hf : f_X11_tooManyToWeigh M = z) : ct_i cx_T l yX11_tooManyToWeigh (Cond.code yX11_tooManyToWeigh cX11_tooManyToWeigh 1 (some .boolean)) 1 20 D cy z0 ad u M X [.ref (ad 0)] z M := by
  refine bgc_i (by decide) (fun p e s m below meth c hC hw => ?_)
  refine en_t (Nat.le_of_ble_eq_true rfl) (fun ls hl => ?_)
  have hl : lv_has ls 1 [(0, .ref (ad 0))] := hl
  exact k_X11_tooManyToWeigh hC hf hw hl
set_option maxRecDepth 100000 in
set_option maxHeartbeats 4000000 in
theorem k_X11_walkAll_28 {p : Program} {l : Launch} {e : Env} {s : State} {m : MethodId} {args : Array Value} {below : List Frame} {meth : Method} {c : Code} {D : va_G} {cy : Nat → ClassId} {z0 : Nat} {ad : Nat → Nat} {X : va_W} {u : Nat × Nat} (hC : cx_C p s m args meth c cX11_walkAll "RhymedThen" (Cond.code yX11_walkAll cX11_walkAll 4 none) 4 none) {z : mm_M} {c0 : Nat} {x1 : Int32} {x2 : Int32} {x3 : Int32} {t1 : Int32} {t2 : Int32} {M : mm_M} (hc0 : c0 ≤ M.2.2) {q2 : Int32 → Int32 → Int32 → mm_M → Option mm_M} (hq2 : ∀ (x1 : Int32) (x2 : Int32) (x3 : Int32) (M : mm_M) (u : Nat × Nat) (H : Heap) (locs : List Loc) (ls : Array Slot), c0 ≤ M.2.2 → q2 x1 x2 x3 M = some z → wd_in cx_T D cy z0 ad u M X s H locs → lv_has ls 4 [(0, .ref (ad 0)), (1, .int x1), (2, .int x2), (3, .int x3)] → W p l e { frames := 7, cells := 2 * (z.2.2 - c0), slots := 52 * (z.2.2 - c0), locals := 215 } s m args below meth c H locs (2 * (M.2.2 - c0)) (52 * (M.2.2 - c0)) (MQ below (aq_v cx_T D cy z0 ad X z) args s (2 * (z.2.2 - c0)) (52 * (z.2.2 - c0)) (fun q => z0 ≤ q)) (F0 m 2 ls [])) (hm2 : ∀ (x1 : Int32) (x2 : Int32) (x3 : Int32) (M : mm_M), q2 x1 x2 x3 M = some z → M.2.2 ≤ z.2.2) (hf : f_X11_walkAll_28 q2 x1 x2 x3 t1 t2 M = some z) {H : Heap} {locs : List Loc} (hw : wd_in cx_T D cy z0 ad u M X s H locs) {ls : Array Slot} (hl : lv_has ls 4 [(0, .ref (ad 0)), (1, .int x1), (2, .int x2), (3, .int x3)]) : W p l e { frames := 7, cells := 2 * (z.2.2 - c0), slots := 52 * (z.2.2 - c0), locals := 215 } s m args below meth c H locs (2 * (M.2.2 - c0)) (52 * (M.2.2 - c0)) (MQ below (aq_v cx_T D cy z0 ad X z) args s (2 * (z.2.2 - c0)) (52 * (z.2.2 - c0)) (fun q => z0 ≤ q)) (F0 m 28 ls [.int t2, .int t1, .ref (ad 66)]) := by
  have hx := hC.1
  have hb := hC.2.1
  have hmz : M.2.2 ≤ z.2.2 := mo_X11_walkAll_28 hm2 hf
  unfold f_X11_walkAll_28 at hf
  obtain ⟨h3, hf⟩ := ck_e hf
  obtain ⟨M4, eM4, hf⟩ := sq_e hf
  have mM4 : M.2.2 ≤ M4.2.2 := by rw [eM4]; exact Nat.le_refl _
  refine rs_i hC hw 66 (Nat.le_of_ble_eq_true rfl) rfl h3 dX11_walkAll_28 eM4 (fun H locs hw => ?_)
  obtain ⟨y5, ey5, hf⟩ := sq_e hf
  refine lv_iinc (v := y5) (lv' := [(3, .int y5), (0, .ref (ad 0)), (1, .int x1), (2, .int x2)]) hx hb dX11_walkAll_29 hl (k := 3) rfl (by rw [ey5]; rfl) (by decide) rfl (fun ls hl => ?_)
  refine lv_goto (tgt := 2) hx hb dX11_walkAll_32 (by decide) ?_
  refine W.widen (k := 2 * (M4.2.2 - c0)) (n := 52 * (M4.2.2 - c0)) (by omega) (by omega) ?_
  exact hq2 _ _ _ _ _ _ _ _ (by omega) hf hw (lv_sub hl [1, 2, 3, 0] rfl)
set_option maxRecDepth 100000 in
set_option maxHeartbeats 4000000 in
theorem k_X11_walkAll_2 {p : Program} {l : Launch} {e : Env} {s : State} {m : MethodId} {args : Array Value} {below : List Frame} {meth : Method} {c : Code} {D : va_G} {cy : Nat → ClassId} {z0 : Nat} {ad : Nat → Nat} {X : va_W} {u : Nat × Nat} (hC : cx_C p s m args meth c cX11_walkAll "RhymedThen" (Cond.code yX11_walkAll cX11_walkAll 4 none) 4 none) {z : mm_M} {c0 : Nat} {x1 : Int32} {x2 : Int32} {x3 : Int32} {M : mm_M} (hc0 : c0 ≤ M.2.2) {q2 : Int32 → Int32 → Int32 → mm_M → Option mm_M} (hq2 : ∀ (x1 : Int32) (x2 : Int32) (x3 : Int32) (M : mm_M) (u : Nat × Nat) (H : Heap) (locs : List Loc) (ls : Array Slot), c0 ≤ M.2.2 → q2 x1 x2 x3 M = some z → wd_in cx_T D cy z0 ad u M X s H locs → lv_has ls 4 [(0, .ref (ad 0)), (1, .int x1), (2, .int x2), (3, .int x3)] → W p l e { frames := 7, cells := 2 * (z.2.2 - c0), slots := 52 * (z.2.2 - c0), locals := 215 } s m args below meth c H locs (2 * (M.2.2 - c0)) (52 * (M.2.2 - c0)) (MQ below (aq_v cx_T D cy z0 ad X z) args s (2 * (z.2.2 - c0)) (52 * (z.2.2 - c0)) (fun q => z0 ≤ q)) (F0 m 2 ls [])) (hm2 : ∀ (x1 : Int32) (x2 : Int32) (x3 : Int32) (M : mm_M), q2 x1 x2 x3 M = some z → M.2.2 ≤ z.2.2) (hf : f_X11_walkAll_2 q2 x1 x2 x3 M = some z) {H : Heap} {locs : List Loc} (hw : wd_in cx_T D cy z0 ad u M X s H locs) {ls : Array Slot} (hl : lv_has ls 4 [(0, .ref (ad 0)), (1, .int x1), (2, .int x2), (3, .int x3)]) : W p l e { frames := 7, cells := 2 * (z.2.2 - c0), slots := 52 * (z.2.2 - c0), locals := 215 } s m args below meth c H locs (2 * (M.2.2 - c0)) (52 * (M.2.2 - c0)) (MQ below (aq_v cx_T D cy z0 ad X z) args s (2 * (z.2.2 - c0)) (52 * (z.2.2 - c0)) (fun q => z0 ≤ q)) (F0 m 2 ls []) := by
  have hx := hC.1
  have hb := hC.2.1
  have hmz : M.2.2 ≤ z.2.2 := mo_X11_walkAll_2 hm2 hf
  unfold f_X11_walkAll_2 at hf
  refine lv_iload_n hx hb dX11_walkAll_2 rfl (lv_at hl 3 rfl) ?_
  refine lv_aload_n hx hb dX11_walkAll_3 rfl (lv_at hl 0 rfl) ?_
  refine rg_p hC hw 0 (Nat.le_of_ble_eq_true rfl) rfl fd_X11_3 wf_X11_35 (q := 14) rfl dX11_walkAll_4 ?_
  refine rg_i hC hw 14 (Nat.le_of_ble_eq_true rfl) rfl fd_X3_2 wf_X11_144 dX11_walkAll_7 ?_
  refine lv_icmp_ge (tgt := 35) hx hb dX11_walkAll_10 (by decide) (fun c1 => ?_) (fun c1 => ?_)
  · rw [if_pos c1] at hf
    refine W.widen (k := 2 * (z.2.2 - c0)) (n := 52 * (z.2.2 - c0)) (by omega) (by omega) ?_
    have hz := Option.some.inj hf
    subst hz
    exact rta_v hC hw dX11_walkAll_35
  · rw [if_neg c1] at hf
    refine lv_aload_n hx hb dX11_walkAll_13 rfl (lv_at hl 0 rfl) ?_
    refine rg_p hC hw 0 (Nat.le_of_ble_eq_true rfl) rfl fd_X11_9 wf_X11_75 (q := 66) rfl dX11_walkAll_14 ?_
    refine lv_iload_n hx hb dX11_walkAll_17 rfl (lv_at hl 3 rfl) ?_
    refine lv_aload_n hx hb dX11_walkAll_18 rfl (lv_at hl 0 rfl) ?_
    refine rg_p hC hw 0 (Nat.le_of_ble_eq_true rfl) rfl fd_X11_3 wf_X11_35 (q := 14) rfl dX11_walkAll_19 ?_
    refine lv_iload_n hx hb dX11_walkAll_22 rfl (lv_at hl 3 rfl) ?_
    refine lv_iload_n hx hb dX11_walkAll_23 rfl (lv_at hl 1 rfl) ?_
    refine lv_iload_n hx hb dX11_walkAll_24 rfl (lv_at hl 2 rfl) ?_
    obtain ⟨z2, ez2, hf⟩ := bd_e hf
    have mz2 : M.2.2 ≤ z2.2.2.2 := mo_X3_courseAt ez2
    have hnz : z2.2.2.2 ≤ z.2.2 := mo_X11_walkAll_28 hm2 hf
    refine cla_Vi hC hw (c_X3_courseAt ez2) hd_X3_courseAt cw_X11_195 (Nat.le_of_ble_eq_true rfl) rfl rfl (rest := [.int x3, .ref (ad 66)]) hl.1 rfl (Nat.le_of_ble_eq_true rfl) ⟨Nat.le_of_ble_eq_true rfl, Nat.le_of_ble_eq_true rfl⟩ ⟨(show 2 * (M.2.2 - c0) + 2 * (z2.2.2.2 - M.2.2) ≤ 2 * (z.2.2 - c0) by omega), (show 52 * (M.2.2 - c0) + 52 * (z2.2.2.2 - M.2.2) ≤ 52 * (z.2.2 - c0) by omega)⟩ rfl dX11_walkAll_25 (fun u H locs hw => ?_)
    refine W.widen (k := 2 * (z2.2.2.2 - c0)) (n := 52 * (z2.2.2.2 - c0)) (by omega) (by omega) ?_
    exact k_X11_walkAll_28 hC (by omega) hq2 hm2 hf hw (lv_sub hl [0, 1, 2, 3] rfl)
set_option maxRecDepth 100000 in
set_option maxHeartbeats 4000000 in
theorem k_X11_walkAll_2l {p : Program} {l : Launch} {e : Env} {s : State} {m : MethodId} {args : Array Value} {below : List Frame} {meth : Method} {c : Code} {D : va_G} {cy : Nat → ClassId} {z0 : Nat} {ad : Nat → Nat} {X : va_W} (hC : cx_C p s m args meth c cX11_walkAll "RhymedThen" (Cond.code yX11_walkAll cX11_walkAll 4 none) 4 none) {z : mm_M} {c0 : Nat} : ∀ (n : Nat) (x1 : Int32) (x2 : Int32) (x3 : Int32) (M : mm_M) (u : Nat × Nat) (H : Heap) (locs : List Loc) (ls : Array Slot), c0 ≤ M.2.2 → f_X11_walkAll_2l n x1 x2 x3 M = some z → wd_in cx_T D cy z0 ad u M X s H locs → lv_has ls 4 [(0, .ref (ad 0)), (1, .int x1), (2, .int x2), (3, .int x3)] → W p l e { frames := 7, cells := 2 * (z.2.2 - c0), slots := 52 * (z.2.2 - c0), locals := 215 } s m args below meth c H locs (2 * (M.2.2 - c0)) (52 * (M.2.2 - c0)) (MQ below (aq_v cx_T D cy z0 ad X z) args s (2 * (z.2.2 - c0)) (52 * (z.2.2 - c0)) (fun q => z0 ≤ q)) (F0 m 2 ls []) := by
  intro n
  induction n with
  | zero => intro x1 x2 x3 M u H locs ls hc0 hf; exact absurd hf (by simp [f_X11_walkAll_2l])
  | succ n ih => intro x1 x2 x3 M u H locs ls hc0 hf hw hl; exact k_X11_walkAll_2 hC hc0 ih (mo_X11_walkAll_2l n) hf hw hl
set_option maxRecDepth 100000 in
set_option maxHeartbeats 4000000 in
theorem k_X11_walkAll {p : Program} {l : Launch} {e : Env} {s : State} {m : MethodId} {args : Array Value} {below : List Frame} {meth : Method} {c : Code} {D : va_G} {cy : Nat → ClassId} {z0 : Nat} {ad : Nat → Nat} {X : va_W} {u : Nat × Nat} (hC : cx_C p s m args meth c cX11_walkAll "RhymedThen" (Cond.code yX11_walkAll cX11_walkAll 4 none) 4 none) {z : mm_M} {c0 : Nat} {x1 : Int32} {x2 : Int32} {M : mm_M} (hc0 : c0 ≤ M.2.2) (hf : f_X11_walkAll x1 x2 M = some z) {H : Heap} {locs : List Loc} (hw : wd_in cx_T D cy z0 ad u M X s H locs) {ls : Array Slot} (hl : lv_has ls 4 [(0, .ref (ad 0)), (1, .int x1), (2, .int x2)]) : W p l e { frames := 7, cells := 2 * (z.2.2 - c0), slots := 52 * (z.2.2 - c0), locals := 215 } s m args below meth c H locs (2 * (M.2.2 - c0)) (52 * (M.2.2 - c0)) (MQ below (aq_v cx_T D cy z0 ad X z) args s (2 * (z.2.2 - c0)) (52 * (z.2.2 - c0)) (fun q => z0 ≤ q)) (F0 m 0 ls []) := by
  have hx := hC.1
  have hb := hC.2.1
  have hmz : M.2.2 ≤ z.2.2 := mo_X11_walkAll hf
  unfold f_X11_walkAll at hf
  refine lv_iconst (v := 0) hx hb dX11_walkAll_0 (by decide) ?_
  refine lv_istore_n (lv' := [(3, .int 0), (0, .ref (ad 0)), (1, .int x1), (2, .int x2)]) hx hb dX11_walkAll_1 rfl hl (by decide) rfl (fun ls hl => ?_)
  refine W.widen (k := 2 * (M.2.2 - c0)) (n := 52 * (M.2.2 - c0)) (by omega) (by omega) ?_
  exact k_X11_walkAll_2l hC fu_ _ _ _ _ _ _ _ _ (by omega) hf hw (lv_sub hl [1, 2, 3, 0] rfl)
set_option maxRecDepth 100000 in
theorem c_X11_walkAll {l : Launch} {D : va_G} {cy : Nat → ClassId} {z0 : Nat} {ad : Nat → Nat} {u : Nat × Nat} {X : va_W} {z : mm_M} {x1 : Int32} {x2 : Int32} {M : mm_M} (hf : f_X11_walkAll x1 x2 M = some z) : ca_v cx_T l yX11_walkAll (Cond.code yX11_walkAll cX11_walkAll 4 none) 7 215 D cy z0 ad u M X [.ref (ad 0), .int x1, .int x2] z := by
  refine bga_v (by decide) (fun p e s m below meth c hC hw => ?_)
  refine en_t (Nat.le_of_ble_eq_true rfl) (fun ls hl => ?_)
  have hl : lv_has ls 4 [(0, .ref (ad 0)), (1, .int x1), (2, .int x2)] := hl
  refine W.widen (k := 2 * (M.2.2 - M.2.2)) (n := 52 * (M.2.2 - M.2.2)) (by omega) (by omega) ?_
  exact k_X11_walkAll hC (Nat.le_refl _) hf hw hl
set_option maxRecDepth 100000 in
set_option maxHeartbeats 4000000 in
theorem k_X11_likeliestWay_53 {p : Program} {l : Launch} {e : Env} {s : State} {m : MethodId} {args : Array Value} {below : List Frame} {meth : Method} {c : Code} {D : va_G} {cy : Nat → ClassId} {z0 : Nat} {ad : Nat → Nat} {X : va_W} {u : Nat × Nat} (hC : cx_C p s m args meth c cX11_likeliestWay "RhymedThen" (Cond.code yX11_likeliestWay cX11_likeliestWay 3 (some .int)) 3 (some .int)) {z : (Int32 × mm_M)} {M : mm_M} (hf : f_X11_likeliestWay_53 M = some z) {H : Heap} {locs : List Loc} (hw : wd_in cx_T D cy z0 ad u M X s H locs) {ls : Array Slot} (hl : lv_has ls 3 [(0, .ref (ad 0))]) : W p l e { frames := 1, cells := 0, slots := 0, locals := 25 } s m args below meth c H locs 0 0 (MQ below (cq_i cx_T D cy z0 ad u X z.1 z.2) args s 0 0 (fun q => z0 ≤ q)) (F0 m 53 ls []) := by
  have hx := hC.1
  have hb := hC.2.1
  unfold f_X11_likeliestWay_53 at hf
  refine lv_aload_n hx hb dX11_likeliestWay_53 rfl (lv_at hl 0 rfl) ?_
  refine rg_p hC hw 0 (Nat.le_of_ble_eq_true rfl) rfl fd_X11_6 wf_X11_58 (q := 39) rfl dX11_likeliestWay_54 ?_
  obtain ⟨z8, ez8, hf⟩ := bd_e hf
  refine clc_Vi hC hw (c_X10_heaviest ez8) hd_X10_heaviest cw_X11_355 (Nat.le_of_ble_eq_true rfl) rfl rfl (rest := []) hl.1 rfl (Nat.le_of_ble_eq_true rfl) ⟨Nat.le_of_ble_eq_true rfl, Nat.le_of_ble_eq_true rfl⟩ ⟨Nat.zero_le _, Nat.zero_le _⟩ rfl dX11_likeliestWay_57 (fun H locs hw => ?_)
  have hz := Option.some.inj hf
  subst hz
  exact rtc_i hC hw dX11_likeliestWay_60
set_option maxRecDepth 100000 in
set_option maxHeartbeats 4000000 in
theorem k_X11_likeliestWay_9 {p : Program} {l : Launch} {e : Env} {s : State} {m : MethodId} {args : Array Value} {below : List Frame} {meth : Method} {c : Code} {D : va_G} {cy : Nat → ClassId} {z0 : Nat} {ad : Nat → Nat} {X : va_W} {u : Nat × Nat} (hC : cx_C p s m args meth c cX11_likeliestWay "RhymedThen" (Cond.code yX11_likeliestWay cX11_likeliestWay 3 (some .int)) 3 (some .int)) {z : (Int32 × mm_M)} {x1 : Int32} {x2 : Int32} {M : mm_M} {q9 : Int32 → Int32 → mm_M → Option (Int32 × mm_M)} (hq9 : ∀ (x1 : Int32) (x2 : Int32) (M : mm_M) (H : Heap) (locs : List Loc) (ls : Array Slot), q9 x1 x2 M = some z → wd_in cx_T D cy z0 ad u M X s H locs → lv_has ls 3 [(0, .ref (ad 0)), (1, .int x1), (2, .int x2)] → W p l e { frames := 1, cells := 0, slots := 0, locals := 25 } s m args below meth c H locs 0 0 (MQ below (cq_i cx_T D cy z0 ad u X z.1 z.2) args s 0 0 (fun q => z0 ≤ q)) (F0 m 9 ls [])) (hf : f_X11_likeliestWay_9 q9 x1 x2 M = some z) {H : Heap} {locs : List Loc} (hw : wd_in cx_T D cy z0 ad u M X s H locs) {ls : Array Slot} (hl : lv_has ls 3 [(0, .ref (ad 0)), (1, .int x1), (2, .int x2)]) : W p l e { frames := 1, cells := 0, slots := 0, locals := 25 } s m args below meth c H locs 0 0 (MQ below (cq_i cx_T D cy z0 ad u X z.1 z.2) args s 0 0 (fun q => z0 ≤ q)) (F0 m 9 ls []) := by
  have hx := hC.1
  have hb := hC.2.1
  unfold f_X11_likeliestWay_9 at hf
  refine lv_iload_n hx hb dX11_likeliestWay_9 rfl (lv_at hl 2 rfl) ?_
  refine lv_aload_n hx hb dX11_likeliestWay_10 rfl (lv_at hl 0 rfl) ?_
  refine rg_p hC hw 0 (Nat.le_of_ble_eq_true rfl) rfl fd_X11_3 wf_X11_35 (q := 14) rfl dX11_likeliestWay_11 ?_
  refine rg_i hC hw 14 (Nat.le_of_ble_eq_true rfl) rfl fd_X3_2 wf_X11_144 dX11_likeliestWay_14 ?_
  refine lv_icmp_ge (tgt := 53) hx hb dX11_likeliestWay_17 (by decide) (fun c2 => ?_) (fun c2 => ?_)
  · rw [if_pos c2] at hf
    exact k_X11_likeliestWay_53 hC hf hw (lv_sub hl [0] rfl)
  · rw [if_neg c2] at hf
    refine lv_aload_n hx hb dX11_likeliestWay_20 rfl (lv_at hl 0 rfl) ?_
    refine rg_p hC hw 0 (Nat.le_of_ble_eq_true rfl) rfl fd_X11_6 wf_X11_58 (q := 39) rfl dX11_likeliestWay_21 ?_
    refine lv_aload_n hx hb dX11_likeliestWay_24 rfl (lv_at hl 0 rfl) ?_
    refine rg_p hC hw 0 (Nat.le_of_ble_eq_true rfl) rfl fd_X11_2 wf_X11_26 (q := 5) rfl dX11_likeliestWay_25 ?_
    refine lv_aload_n hx hb dX11_likeliestWay_28 rfl (lv_at hl 0 rfl) ?_
    refine rg_p hC hw 0 (Nat.le_of_ble_eq_true rfl) rfl fd_X11_9 wf_X11_75 (q := 66) rfl dX11_likeliestWay_29 ?_
    refine lv_iload_n hx hb dX11_likeliestWay_32 rfl (lv_at hl 2 rfl) ?_
    obtain ⟨h3, hf⟩ := ck_e hf
    refine ra_i hC hw 66 (Nat.le_of_ble_eq_true rfl) rfl h3 dX11_likeliestWay_33 ?_
    refine lv_iload_n hx hb dX11_likeliestWay_34 rfl (lv_at hl 1 rfl) ?_
    obtain ⟨z4, ez4, hf⟩ := bd_e hf
    refine clc_Vl hC hw (c_X9_formOn ez4) hd_X9_formOn cw_X11_198 (Nat.le_of_ble_eq_true rfl) rfl rfl (rest := [.ref (ad 39)]) hl.1 rfl (Nat.le_of_ble_eq_true rfl) ⟨Nat.le_of_ble_eq_true rfl, Nat.le_of_ble_eq_true rfl⟩ ⟨Nat.zero_le _, Nat.zero_le _⟩ rfl dX11_likeliestWay_35 (fun H locs hw => ?_)
    refine lv_aload_n hx hb dX11_likeliestWay_38 rfl (lv_at hl 0 rfl) ?_
    refine rg_p hC hw 0 (Nat.le_of_ble_eq_true rfl) rfl fd_X11_10 wf_X11_79 (q := 67) rfl dX11_likeliestWay_39 ?_
    refine lv_iload_n hx hb dX11_likeliestWay_42 rfl (lv_at hl 2 rfl) ?_
    obtain ⟨h5, hf⟩ := ck_e hf
    refine ra_l hC hw 67 (Nat.le_of_ble_eq_true rfl) rfl h5 dX11_likeliestWay_43 ?_
    obtain ⟨z6, ez6, hf⟩ := bd_e hf
    refine clc_Vv hC hw (c_X10_add ez6) hd_X10_add cw_X11_314 (Nat.le_of_ble_eq_true rfl) rfl rfl (rest := []) hl.1 rfl (Nat.le_of_ble_eq_true rfl) ⟨Nat.le_of_ble_eq_true rfl, Nat.le_of_ble_eq_true rfl⟩ ⟨Nat.zero_le _, Nat.zero_le _⟩ rfl dX11_likeliestWay_44 (fun H locs hw => ?_)
    obtain ⟨y7, ey7, hf⟩ := sq_e hf
    refine lv_iinc (v := y7) (lv' := [(2, .int y7), (0, .ref (ad 0)), (1, .int x1)]) hx hb dX11_likeliestWay_47 hl (k := 2) rfl (by rw [ey7]; rfl) (by decide) rfl (fun ls hl => ?_)
    refine lv_goto (tgt := 9) hx hb dX11_likeliestWay_50 (by decide) ?_
    exact hq9 _ _ _ _ _ _ hf hw (lv_sub hl [1, 2, 0] rfl)
set_option maxRecDepth 100000 in
set_option maxHeartbeats 4000000 in
theorem k_X11_likeliestWay_9l {p : Program} {l : Launch} {e : Env} {s : State} {m : MethodId} {args : Array Value} {below : List Frame} {meth : Method} {c : Code} {D : va_G} {cy : Nat → ClassId} {z0 : Nat} {ad : Nat → Nat} {X : va_W} {u : Nat × Nat} (hC : cx_C p s m args meth c cX11_likeliestWay "RhymedThen" (Cond.code yX11_likeliestWay cX11_likeliestWay 3 (some .int)) 3 (some .int)) {z : (Int32 × mm_M)} : ∀ (n : Nat) (x1 : Int32) (x2 : Int32) (M : mm_M) (H : Heap) (locs : List Loc) (ls : Array Slot), f_X11_likeliestWay_9l n x1 x2 M = some z → wd_in cx_T D cy z0 ad u M X s H locs → lv_has ls 3 [(0, .ref (ad 0)), (1, .int x1), (2, .int x2)] → W p l e { frames := 1, cells := 0, slots := 0, locals := 25 } s m args below meth c H locs 0 0 (MQ below (cq_i cx_T D cy z0 ad u X z.1 z.2) args s 0 0 (fun q => z0 ≤ q)) (F0 m 9 ls []) := by
  intro n
  induction n with
  | zero => intro x1 x2 M H locs ls hf; exact absurd hf (by simp [f_X11_likeliestWay_9l])
  | succ n ih => intro x1 x2 M H locs ls hf hw hl; exact k_X11_likeliestWay_9 hC ih hf hw hl
set_option maxRecDepth 100000 in
set_option maxHeartbeats 4000000 in
theorem k_X11_likeliestWay {p : Program} {l : Launch} {e : Env} {s : State} {m : MethodId} {args : Array Value} {below : List Frame} {meth : Method} {c : Code} {D : va_G} {cy : Nat → ClassId} {z0 : Nat} {ad : Nat → Nat} {X : va_W} {u : Nat × Nat} (hC : cx_C p s m args meth c cX11_likeliestWay "RhymedThen" (Cond.code yX11_likeliestWay cX11_likeliestWay 3 (some .int)) 3 (some .int)) {z : (Int32 × mm_M)} {x1 : Int32} {M : mm_M} (hf : f_X11_likeliestWay x1 M = some z) {H : Heap} {locs : List Loc} (hw : wd_in cx_T D cy z0 ad u M X s H locs) {ls : Array Slot} (hl : lv_has ls 3 [(0, .ref (ad 0)), (1, .int x1)]) : W p l e { frames := 1, cells := 0, slots := 0, locals := 25 } s m args below meth c H locs 0 0 (MQ below (cq_i cx_T D cy z0 ad u X z.1 z.2) args s 0 0 (fun q => z0 ≤ q)) (F0 m 0 ls []) := by
  have hx := hC.1
  have hb := hC.2.1
  unfold f_X11_likeliestWay at hf
  refine lv_aload_n hx hb dX11_likeliestWay_0 rfl (lv_at hl 0 rfl) ?_
  refine rg_p hC hw 0 (Nat.le_of_ble_eq_true rfl) rfl fd_X11_6 wf_X11_58 (q := 39) rfl dX11_likeliestWay_1 ?_
  obtain ⟨z1, ez1, hf⟩ := sq_e hf
  refine clc_Vv hC hw (c_X10_clear ez1.symm) hd_X10_clear cw_X11_313 (Nat.le_of_ble_eq_true rfl) rfl rfl (rest := []) hl.1 rfl (Nat.le_of_ble_eq_true rfl) ⟨Nat.le_of_ble_eq_true rfl, Nat.le_of_ble_eq_true rfl⟩ ⟨Nat.zero_le _, Nat.zero_le _⟩ rfl dX11_likeliestWay_4 (fun H locs hw => ?_)
  refine lv_iconst (v := 0) hx hb dX11_likeliestWay_7 (by decide) ?_
  refine lv_istore_n (lv' := [(2, .int 0), (0, .ref (ad 0)), (1, .int x1)]) hx hb dX11_likeliestWay_8 rfl hl (by decide) rfl (fun ls hl => ?_)
  exact k_X11_likeliestWay_9l hC fu_ _ _ _ _ _ _ hf hw (lv_sub hl [1, 2, 0] rfl)
set_option maxRecDepth 100000 in
theorem c_X11_likeliestWay {l : Launch} {D : va_G} {cy : Nat → ClassId} {z0 : Nat} {ad : Nat → Nat} {u : Nat × Nat} {X : va_W} {z : (Int32 × mm_M)} {x1 : Int32} {M : mm_M} (hf : f_X11_likeliestWay x1 M = some z) : ct_i cx_T l yX11_likeliestWay (Cond.code yX11_likeliestWay cX11_likeliestWay 3 (some .int)) 1 25 D cy z0 ad u M X [.ref (ad 0), .int x1] z.1 z.2 := by
  refine bgc_i (by decide) (fun p e s m below meth c hC hw => ?_)
  refine en_t (Nat.le_of_ble_eq_true rfl) (fun ls hl => ?_)
  have hl : lv_has ls 3 [(0, .ref (ad 0)), (1, .int x1)] := hl
  exact k_X11_likeliestWay hC hf hw hl
set_option maxRecDepth 100000 in
set_option maxHeartbeats 4000000 in
theorem k_X11_then_57 {p : Program} {l : Launch} {e : Env} {s : State} {m : MethodId} {args : Array Value} {below : List Frame} {meth : Method} {c : Code} {D : va_G} {cy : Nat → ClassId} {z0 : Nat} {ad : Nat → Nat} {X : va_W} {u : Nat × Nat} (hC : cx_C p s m args meth c cX11_then "RhymedThen" (Cond.code yX11_then cX11_then 7 (some .int)) 7 (some .int)) {z : (Int32 × mm_M)} {c0 : Nat} {x1 : Int32} {x4 : Int64} {M : mm_M} (hc0 : c0 ≤ M.2.2) (hf : f_X11_then_57 x1 x4 M = some z) {H : Heap} {locs : List Loc} (hw : wd_in cx_T D cy z0 ad u M X s H locs) {ls : Array Slot} (hl : lv_has ls 7 [(0, .ref (ad 0)), (1, .int x1), (4, .long x4)]) : W p l e { frames := 8, cells := 2 * (z.2.2.2 - c0), slots := 52 * (z.2.2.2 - c0), locals := 238 } s m args below meth c H locs (2 * (M.2.2 - c0)) (52 * (M.2.2 - c0)) (MQ below (aq_i cx_T D cy z0 ad X z.1 z.2) args s (2 * (z.2.2.2 - c0)) (52 * (z.2.2.2 - c0)) (fun q => z0 ≤ q)) (F0 m 57 ls []) := by
  have hx := hC.1
  have hb := hC.2.1
  have hmz : M.2.2 ≤ z.2.2.2 := mo_X11_then_57 hf
  unfold f_X11_then_57 at hf
  refine lv_aload_n hx hb dX11_then_57 rfl (lv_at hl 0 rfl) ?_
  refine lv_iload_n hx hb dX11_then_58 rfl (lv_at hl 1 rfl) ?_
  obtain ⟨z12, ez12, hf⟩ := bd_e hf
  have mz12 : M.2.2 ≤ z12.2.2.2 := mo_X11_likeliestWay ez12
  refine clc_Vi hC hw (c_X11_likeliestWay ez12) hd_X11_likeliestWay cw_X11_346 (Nat.le_of_ble_eq_true rfl) rfl rfl (rest := []) hl.1 rfl (Nat.le_of_ble_eq_true rfl) ⟨Nat.le_of_ble_eq_true rfl, Nat.le_of_ble_eq_true rfl⟩ ⟨(show 2 * (M.2.2 - c0) ≤ 2 * (z.2.2.2 - c0) by omega), (show 52 * (M.2.2 - c0) ≤ 52 * (z.2.2.2 - c0) by omega)⟩ rfl dX11_then_59 (fun H locs hw => ?_)
  refine lv_istore (lv' := [(6, .int z12.1), (0, .ref (ad 0)), (1, .int x1), (4, .long x4)]) hx hb dX11_then_62 hl (by decide) rfl (fun ls hl => ?_)
  refine lv_aload_n hx hb dX11_then_64 rfl (lv_at hl 1 rfl) ?_
  refine rg_p hC hw 0 (Nat.le_of_ble_eq_true rfl) rfl fd_X11_1 wf_X11_19 (q := 3) rfl dX11_then_65 ?_
  obtain ⟨z13, ez13, hf⟩ := sq_e hf
  have mz13 : z12.2.2.2 ≤ z13.2.2 := mo_X4_clear ez13.symm
  refine clc_Vv hC hw (c_X4_clear ez13.symm) hd_X4_clear cw_X11_192 (Nat.le_of_ble_eq_true rfl) rfl rfl (rest := []) hl.1 rfl (Nat.le_of_ble_eq_true rfl) ⟨Nat.le_of_ble_eq_true rfl, Nat.le_of_ble_eq_true rfl⟩ ⟨(show 2 * (M.2.2 - c0) ≤ 2 * (z.2.2.2 - c0) by omega), (show 52 * (M.2.2 - c0) ≤ 52 * (z.2.2.2 - c0) by omega)⟩ rfl dX11_then_68 (fun H locs hw => ?_)
  refine lv_aload_n hx hb dX11_then_71 rfl (lv_at hl 1 rfl) ?_
  refine rg_p hC hw 0 (Nat.le_of_ble_eq_true rfl) rfl fd_X11_1 wf_X11_19 (q := 3) rfl dX11_then_72 ?_
  refine lv_aload_n hx hb dX11_then_75 rfl (lv_at hl 1 rfl) ?_
  refine rg_p hC hw 0 (Nat.le_of_ble_eq_true rfl) rfl fd_X11_6 wf_X11_58 (q := 39) rfl dX11_then_76 ?_
  refine rg_p hC hw 39 (Nat.le_of_ble_eq_true rfl) rfl fd_X10_1 wf_X11_349 (q := 41) rfl dX11_then_79 ?_
  refine lv_iload hx hb dX11_then_82 (lv_at hl 0 rfl) ?_
  obtain ⟨h14, hf⟩ := ck_e hf
  refine ra_l hC hw 41 (Nat.le_of_ble_eq_true rfl) rfl h14 dX11_then_84 ?_
  refine lv_lload hx hb dX11_then_85 (lv_at hl 3 rfl) ?_
  obtain ⟨z15, ez15, hf⟩ := bd_e hf
  have mz15 : z13.2.2 ≤ z15.2.2 := mo_X4_addFraction ez15
  refine clc_Vv hC hw (c_X4_addFraction ez15) hd_X4_addFraction cw_X11_231 (Nat.le_of_ble_eq_true rfl) rfl rfl (rest := []) hl.1 rfl (Nat.le_of_ble_eq_true rfl) ⟨Nat.le_of_ble_eq_true rfl, Nat.le_of_ble_eq_true rfl⟩ ⟨(show 2 * (M.2.2 - c0) ≤ 2 * (z.2.2.2 - c0) by omega), (show 52 * (M.2.2 - c0) ≤ 52 * (z.2.2.2 - c0) by omega)⟩ rfl dX11_then_87 (fun H locs hw => ?_)
  refine lv_aload_n hx hb dX11_then_90 rfl (lv_at hl 1 rfl) ?_
  refine lv_aload_n hx hb dX11_then_91 rfl (lv_at hl 1 rfl) ?_
  refine rg_p hC hw 0 (Nat.le_of_ble_eq_true rfl) rfl fd_X11_6 wf_X11_58 (q := 39) rfl dX11_then_92 ?_
  refine rg_p hC hw 39 (Nat.le_of_ble_eq_true rfl) rfl fd_X10_0 wf_X11_352 (q := 40) rfl dX11_then_95 ?_
  refine lv_iload hx hb dX11_then_98 (lv_at hl 0 rfl) ?_
  obtain ⟨h16, hf⟩ := ck_e hf
  refine ra_l hC hw 40 (Nat.le_of_ble_eq_true rfl) rfl h16 dX11_then_100 ?_
  obtain ⟨z17, ez17, hf⟩ := bd_e hf
  have mz17 : z15.2.2 ≤ z17.2.2.2 := mo_X11_tellSounds ez17
  refine clc_Vi hC hw (c_X11_tellSounds ez17) hd_X11_tellSounds cw_X11_202 (Nat.le_of_ble_eq_true rfl) rfl rfl (rest := []) hl.1 rfl (Nat.le_of_ble_eq_true rfl) ⟨Nat.le_of_ble_eq_true rfl, Nat.le_of_ble_eq_true rfl⟩ ⟨(show 2 * (M.2.2 - c0) ≤ 2 * (z.2.2.2 - c0) by omega), (show 52 * (M.2.2 - c0) ≤ 52 * (z.2.2.2 - c0) by omega)⟩ rfl dX11_then_101 (fun H locs hw => ?_)
  refine W.widen (k := 2 * (z.2.2.2 - c0)) (n := 52 * (z.2.2.2 - c0)) (by omega) (by omega) ?_
  have hz := Option.some.inj hf
  subst hz
  exact rta_i hC hw dX11_then_104
set_option maxRecDepth 100000 in
set_option maxHeartbeats 4000000 in
theorem k_X11_then_38 {p : Program} {l : Launch} {e : Env} {s : State} {m : MethodId} {args : Array Value} {below : List Frame} {meth : Method} {c : Code} {D : va_G} {cy : Nat → ClassId} {z0 : Nat} {ad : Nat → Nat} {X : va_W} {u : Nat × Nat} (hC : cx_C p s m args meth c cX11_then "RhymedThen" (Cond.code yX11_then cX11_then 7 (some .int)) 7 (some .int)) {z : (Int32 × mm_M)} {c0 : Nat} {x1 : Int32} {x2 : Int32} {x3 : Int32} {M : mm_M} (hc0 : c0 ≤ M.2.2) (hf : f_X11_then_38 x1 x2 x3 M = some z) {H : Heap} {locs : List Loc} (hw : wd_in cx_T D cy z0 ad u M X s H locs) {ls : Array Slot} (hl : lv_has ls 7 [(0, .ref (ad 0)), (1, .int x1), (2, .int x2), (3, .int x3)]) : W p l e { frames := 8, cells := 2 * (z.2.2.2 - c0), slots := 52 * (z.2.2.2 - c0), locals := 238 } s m args below meth c H locs (2 * (M.2.2 - c0)) (52 * (M.2.2 - c0)) (MQ below (aq_i cx_T D cy z0 ad X z.1 z.2) args s (2 * (z.2.2.2 - c0)) (52 * (z.2.2.2 - c0)) (fun q => z0 ≤ q)) (F0 m 38 ls []) := by
  have hx := hC.1
  have hb := hC.2.1
  have hmz : M.2.2 ≤ z.2.2.2 := mo_X11_then_38 hf
  unfold f_X11_then_38 at hf
  refine lv_aload_n hx hb dX11_then_38 rfl (lv_at hl 0 rfl) ?_
  refine lv_aload_n hx hb dX11_then_39 rfl (lv_at hl 0 rfl) ?_
  refine rg_p hC hw 0 (Nat.le_of_ble_eq_true rfl) rfl fd_X11_4 wf_X11_44 (q := 19) rfl dX11_then_40 ?_
  refine rg_i hC hw 19 (Nat.le_of_ble_eq_true rfl) rfl fd_X6_4 wf_X11_283 dX11_then_43 ?_
  obtain ⟨z10, ez10, hf⟩ := bd_e hf
  have mz10 : M.2.2 ≤ z10.2.2.2 := mo_X11_weighAll ez10
  refine clc_Vl hC hw (c_X11_weighAll ez10) hd_X11_weighAll cw_X11_332 (Nat.le_of_ble_eq_true rfl) rfl rfl (rest := []) hl.1 rfl (Nat.le_of_ble_eq_true rfl) ⟨Nat.le_of_ble_eq_true rfl, Nat.le_of_ble_eq_true rfl⟩ ⟨(show 2 * (M.2.2 - c0) ≤ 2 * (z.2.2.2 - c0) by omega), (show 52 * (M.2.2 - c0) ≤ 52 * (z.2.2.2 - c0) by omega)⟩ rfl dX11_then_46 (fun H locs hw => ?_)
  refine lv_lstore (lv' := [(4, .long z10.1), (0, .ref (ad 0)), (1, .int x1), (2, .int x2), (3, .int x3)]) hx hb dX11_then_49 hl (by decide) rfl (fun ls hl => ?_)
  refine lv_aload_n hx hb dX11_then_51 rfl (lv_at hl 1 rfl) ?_
  refine lv_iload_n hx hb dX11_then_52 rfl (lv_at hl 3 rfl) ?_
  refine lv_iload_n hx hb dX11_then_53 rfl (lv_at hl 4 rfl) ?_
  obtain ⟨z11, ez11, hf⟩ := bd_e hf
  have mz11 : z10.2.2.2 ≤ z11.2.2 := mo_X11_walkAll ez11
  have hnz : z11.2.2 ≤ z.2.2.2 := mo_X11_then_57 hf
  refine cla_Vv hC hw (c_X11_walkAll ez11) hd_X11_walkAll cw_X11_343 (Nat.le_of_ble_eq_true rfl) rfl rfl (rest := []) hl.1 rfl (Nat.le_of_ble_eq_true rfl) ⟨Nat.le_of_ble_eq_true rfl, Nat.le_of_ble_eq_true rfl⟩ ⟨(show 2 * (M.2.2 - c0) + 2 * (z11.2.2 - z10.2.2.2) ≤ 2 * (z.2.2.2 - c0) by omega), (show 52 * (M.2.2 - c0) + 52 * (z11.2.2 - z10.2.2.2) ≤ 52 * (z.2.2.2 - c0) by omega)⟩ rfl dX11_then_54 (fun u H locs hw => ?_)
  refine W.widen (k := 2 * (z11.2.2 - c0)) (n := 52 * (z11.2.2 - c0)) (by omega) (by omega) ?_
  exact k_X11_then_57 hC (by omega) hf hw (lv_sub hl [1, 2, 0] rfl)
set_option maxRecDepth 100000 in
set_option maxHeartbeats 4000000 in
theorem k_X11_then {p : Program} {l : Launch} {e : Env} {s : State} {m : MethodId} {args : Array Value} {below : List Frame} {meth : Method} {c : Code} {D : va_G} {cy : Nat → ClassId} {z0 : Nat} {ad : Nat → Nat} {X : va_W} {u : Nat × Nat} (hC : cx_C p s m args meth c cX11_then "RhymedThen" (Cond.code yX11_then cX11_then 7 (some .int)) 7 (some .int)) {z : (Int32 × mm_M)} {c0 : Nat} {x1 : Int32} {x2 : Int32} {x3 : Int32} {M : mm_M} (hc0 : c0 ≤ M.2.2) (hf : f_X11_then x1 x2 x3 M = some z) {H : Heap} {locs : List Loc} (hw : wd_in cx_T D cy z0 ad u M X s H locs) {ls : Array Slot} (hl : lv_has ls 7 [(0, .ref (ad 0)), (1, .int x1), (2, .int x2), (3, .int x3)]) : W p l e { frames := 8, cells := 2 * (z.2.2.2 - c0), slots := 52 * (z.2.2.2 - c0), locals := 238 } s m args below meth c H locs (2 * (M.2.2 - c0)) (52 * (M.2.2 - c0)) (MQ below (aq_i cx_T D cy z0 ad X z.1 z.2) args s (2 * (z.2.2.2 - c0)) (52 * (z.2.2.2 - c0)) (fun q => z0 ≤ q)) (F0 m 0 ls []) := by
  have hx := hC.1
  have hb := hC.2.1
  have hmz : M.2.2 ≤ z.2.2.2 := mo_X11_then hf
  unfold f_X11_then at hf
  refine lv_aload_n hx hb dX11_then_0 rfl (lv_at hl 0 rfl) ?_
  refine lv_iload_n hx hb dX11_then_1 rfl (lv_at hl 1 rfl) ?_
  obtain ⟨z1, ez1, hf⟩ := sq_e hf
  refine clc_Vi hC hw (c_X11_isWord ez1.symm) hd_X11_isWord cw_X11_185 (Nat.le_of_ble_eq_true rfl) rfl rfl (rest := []) hl.1 rfl (Nat.le_of_ble_eq_true rfl) ⟨Nat.le_of_ble_eq_true rfl, Nat.le_of_ble_eq_true rfl⟩ ⟨(show 2 * (M.2.2 - c0) ≤ 2 * (z.2.2.2 - c0) by omega), (show 52 * (M.2.2 - c0) ≤ 52 * (z.2.2.2 - c0) by omega)⟩ rfl dX11_then_2 (fun H locs hw => ?_)
  refine lv_if_eq (tgt := 29) hx hb dX11_then_5 (by decide) (fun c2 => ?_) (fun c2 => ?_)
  · rw [if_pos c2] at hf
    refine lv_iconst (v := (-1)) hx hb dX11_then_29 (by decide) ?_
    refine W.widen (k := 2 * (z.2.2.2 - c0)) (n := 52 * (z.2.2.2 - c0)) (by omega) (by omega) ?_
    have hz := Option.some.inj hf
    subst hz
    exact rta_i hC hw dX11_then_30
  · rw [if_neg c2] at hf
    refine lv_iload_n hx hb dX11_then_8 rfl (lv_at hl 2 rfl) ?_
    obtain ⟨z3, ez3, hf⟩ := sq_e hf
    refine clc_Si hC hw (c_X11_isYear ez3.symm) hd_X11_isYear cw_X11_257 (rest := []) hl.1 rfl (Nat.le_of_ble_eq_true rfl) ⟨Nat.le_of_ble_eq_true rfl, Nat.le_of_ble_eq_true rfl⟩ ⟨(show 2 * (M.2.2 - c0) ≤ 2 * (z.2.2.2 - c0) by omega), (show 52 * (M.2.2 - c0) ≤ 52 * (z.2.2.2 - c0) by omega)⟩ rfl dX11_then_9 (fun H locs hw => ?_)
    refine lv_if_eq (tgt := 29) hx hb dX11_then_12 (by decide) (fun c4 => ?_) (fun c4 => ?_)
    · rw [if_pos c4] at hf
      refine lv_iconst (v := (-1)) hx hb dX11_then_29 (by decide) ?_
      refine W.widen (k := 2 * (z.2.2.2 - c0)) (n := 52 * (z.2.2.2 - c0)) (by omega) (by omega) ?_
      have hz := Option.some.inj hf
      subst hz
      exact rta_i hC hw dX11_then_30
    · rw [if_neg c4] at hf
      refine lv_iload_n hx hb dX11_then_15 rfl (lv_at hl 3 rfl) ?_
      obtain ⟨z5, ez5, hf⟩ := sq_e hf
      refine clc_Si hC hw (c_X11_isPlace ez5.symm) hd_X11_isPlace cw_X11_163 (rest := []) hl.1 rfl (Nat.le_of_ble_eq_true rfl) ⟨Nat.le_of_ble_eq_true rfl, Nat.le_of_ble_eq_true rfl⟩ ⟨(show 2 * (M.2.2 - c0) ≤ 2 * (z.2.2.2 - c0) by omega), (show 52 * (M.2.2 - c0) ≤ 52 * (z.2.2.2 - c0) by omega)⟩ rfl dX11_then_16 (fun H locs hw => ?_)
      refine lv_if_eq (tgt := 29) hx hb dX11_then_19 (by decide) (fun c6 => ?_) (fun c6 => ?_)
      · rw [if_pos c6] at hf
        refine lv_iconst (v := (-1)) hx hb dX11_then_29 (by decide) ?_
        refine W.widen (k := 2 * (z.2.2.2 - c0)) (n := 52 * (z.2.2.2 - c0)) (by omega) (by omega) ?_
        have hz := Option.some.inj hf
        subst hz
        exact rta_i hC hw dX11_then_30
      · rw [if_neg c6] at hf
        refine lv_aload_n hx hb dX11_then_22 rfl (lv_at hl 0 rfl) ?_
        obtain ⟨z7, ez7, hf⟩ := sq_e hf
        refine clc_Vi hC hw (c_X11_tooManyToWeigh ez7.symm) hd_X11_tooManyToWeigh cw_X11_339 (Nat.le_of_ble_eq_true rfl) rfl rfl (rest := []) hl.1 rfl (Nat.le_of_ble_eq_true rfl) ⟨Nat.le_of_ble_eq_true rfl, Nat.le_of_ble_eq_true rfl⟩ ⟨(show 2 * (M.2.2 - c0) ≤ 2 * (z.2.2.2 - c0) by omega), (show 52 * (M.2.2 - c0) ≤ 52 * (z.2.2.2 - c0) by omega)⟩ rfl dX11_then_23 (fun H locs hw => ?_)
        refine lv_if_eq (tgt := 31) hx hb dX11_then_26 (by decide) (fun c8 => ?_) (fun c8 => ?_)
        · rw [if_pos c8] at hf
          refine lv_aload_n hx hb dX11_then_31 rfl (lv_at hl 0 rfl) ?_
          refine rg_p hC hw 0 (Nat.le_of_ble_eq_true rfl) rfl fd_X11_4 wf_X11_44 (q := 19) rfl dX11_then_32 ?_
          obtain ⟨z9, ez9, hf⟩ := bd_e hf
          have mz9 : M.2.2 ≤ z9.2.2 := mo_X6_lookAnew ez9
          have hnz : z9.2.2 ≤ z.2.2.2 := mo_X11_then_38 hf
          refine cla_Vv hC hw (c_X6_lookAnew ez9) hd_X6_lookAnew cw_X11_286 (Nat.le_of_ble_eq_true rfl) rfl rfl (rest := []) hl.1 rfl (Nat.le_of_ble_eq_true rfl) ⟨Nat.le_of_ble_eq_true rfl, Nat.le_of_ble_eq_true rfl⟩ ⟨(show 2 * (M.2.2 - c0) + 2 * (z9.2.2 - M.2.2) ≤ 2 * (z.2.2.2 - c0) by omega), (show 52 * (M.2.2 - c0) + 52 * (z9.2.2 - M.2.2) ≤ 52 * (z.2.2.2 - c0) by omega)⟩ rfl dX11_then_35 (fun u H locs hw => ?_)
          refine W.widen (k := 2 * (z9.2.2 - c0)) (n := 52 * (z9.2.2 - c0)) (by omega) (by omega) ?_
          exact k_X11_then_38 hC (by omega) hf hw (lv_sub hl [0, 1, 2, 3] rfl)
        · rw [if_neg c8] at hf
          refine lv_iconst (v := (-1)) hx hb dX11_then_29 (by decide) ?_
          refine W.widen (k := 2 * (z.2.2.2 - c0)) (n := 52 * (z.2.2.2 - c0)) (by omega) (by omega) ?_
          have hz := Option.some.inj hf
          subst hz
          exact rta_i hC hw dX11_then_30
set_option maxRecDepth 100000 in
theorem c_X11_then {l : Launch} {D : va_G} {cy : Nat → ClassId} {z0 : Nat} {ad : Nat → Nat} {u : Nat × Nat} {X : va_W} {z : (Int32 × mm_M)} {x1 : Int32} {x2 : Int32} {x3 : Int32} {M : mm_M} (hf : f_X11_then x1 x2 x3 M = some z) : ca_i cx_T l yX11_then (Cond.code yX11_then cX11_then 7 (some .int)) 8 238 D cy z0 ad u M X [.ref (ad 0), .int x1, .int x2, .int x3] z.1 z.2 := by
  refine bga_i (by decide) (fun p e s m below meth c hC hw => ?_)
  refine en_t (Nat.le_of_ble_eq_true rfl) (fun ls hl => ?_)
  have hl : lv_has ls 7 [(0, .ref (ad 0)), (1, .int x1), (2, .int x2), (3, .int x3)] := hl
  refine W.widen (k := 2 * (M.2.2 - M.2.2)) (n := 52 * (M.2.2 - M.2.2)) (by omega) (by omega) ?_
  exact k_X11_then hC (Nat.le_refl _) hf hw hl
set_option maxRecDepth 100000 in
set_option maxHeartbeats 4000000 in
theorem k_X11_right_104 {p : Program} {l : Launch} {e : Env} {s : State} {m : MethodId} {args : Array Value} {below : List Frame} {meth : Method} {c : Code} {D : va_G} {cy : Nat → ClassId} {z0 : Nat} {ad : Nat → Nat} {X : va_W} {u : Nat × Nat} (hC : cx_C p s m args meth c cX11_right "RhymedThen" (Cond.code yX11_right cX11_right 6 (some .int)) 6 (some .int)) {z : (Int32 × mm_M)} {c0 : Nat} {x1 : Int32} {x4 : Int32} {x5 : Int32} {M : mm_M} (hc0 : c0 ≤ M.2.2) {q50 : Int32 → Int32 → Int32 → mm_M → Option (Int32 × mm_M)} (hq50 : ∀ (x1 : Int32) (x4 : Int32) (x5 : Int32) (M : mm_M) (u : Nat × Nat) (H : Heap) (locs : List Loc) (ls : Array Slot), c0 ≤ M.2.2 → q50 x1 x4 x5 M = some z → wd_in cx_T D cy z0 ad u M X s H locs → lv_has ls 6 [(0, .ref (ad 0)), (1, .int x1), (4, .int x4), (5, .int x5)] → W p l e { frames := 8, cells := 2 * (z.2.2.2 - c0), slots := 52 * (z.2.2.2 - c0), locals := 238 } s m args below meth c H locs (2 * (M.2.2 - c0)) (52 * (M.2.2 - c0)) (MQ below (aq_i cx_T D cy z0 ad X z.1 z.2) args s (2 * (z.2.2.2 - c0)) (52 * (z.2.2.2 - c0)) (fun q => z0 ≤ q)) (F0 m 50 ls [])) (hm50 : ∀ (x1 : Int32) (x4 : Int32) (x5 : Int32) (M : mm_M), q50 x1 x4 x5 M = some z → M.2.2 ≤ z.2.2.2) (hf : f_X11_right_104 q50 x1 x4 x5 M = some z) {H : Heap} {locs : List Loc} (hw : wd_in cx_T D cy z0 ad u M X s H locs) {ls : Array Slot} (hl : lv_has ls 6 [(0, .ref (ad 0)), (1, .int x1), (4, .int x4), (5, .int x5)]) : W p l e { frames := 8, cells := 2 * (z.2.2.2 - c0), slots := 52 * (z.2.2.2 - c0), locals := 238 } s m args below meth c H locs (2 * (M.2.2 - c0)) (52 * (M.2.2 - c0)) (MQ below (aq_i cx_T D cy z0 ad X z.1 z.2) args s (2 * (z.2.2.2 - c0)) (52 * (z.2.2.2 - c0)) (fun q => z0 ≤ q)) (F0 m 104 ls []) := by
  have hx := hC.1
  have hb := hC.2.1
  have hmz : M.2.2 ≤ z.2.2.2 := mo_X11_right_104 hm50 hf
  unfold f_X11_right_104 at hf
  obtain ⟨y18, ey18, hf⟩ := sq_e hf
  refine lv_iinc (v := y18) (lv' := [(5, .int y18), (0, .ref (ad 0)), (1, .int x1), (4, .int x4)]) hx hb dX11_right_104 hl (k := 3) rfl (by rw [ey18]; rfl) (by decide) rfl (fun ls hl => ?_)
  refine lv_goto (tgt := 50) hx hb dX11_right_107 (by decide) ?_
  refine W.widen (k := 2 * (M.2.2 - c0)) (n := 52 * (M.2.2 - c0)) (by omega) (by omega) ?_
  exact hq50 _ _ _ _ _ _ _ _ (by omega) hf hw (lv_sub hl [1, 2, 3, 0] rfl)
set_option maxRecDepth 100000 in
set_option maxHeartbeats 4000000 in
theorem k_X11_right_110 {p : Program} {l : Launch} {e : Env} {s : State} {m : MethodId} {args : Array Value} {below : List Frame} {meth : Method} {c : Code} {D : va_G} {cy : Nat → ClassId} {z0 : Nat} {ad : Nat → Nat} {X : va_W} {u : Nat × Nat} (hC : cx_C p s m args meth c cX11_right "RhymedThen" (Cond.code yX11_right cX11_right 6 (some .int)) 6 (some .int)) {z : (Int32 × mm_M)} {c0 : Nat} {x4 : Int32} {M : mm_M} (hc0 : c0 ≤ M.2.2) (hf : f_X11_right_110 x4 M = some z) {H : Heap} {locs : List Loc} (hw : wd_in cx_T D cy z0 ad u M X s H locs) {ls : Array Slot} (hl : lv_has ls 6 [(0, .ref (ad 0)), (4, .int x4)]) : W p l e { frames := 8, cells := 2 * (z.2.2.2 - c0), slots := 52 * (z.2.2.2 - c0), locals := 238 } s m args below meth c H locs (2 * (M.2.2 - c0)) (52 * (M.2.2 - c0)) (MQ below (aq_i cx_T D cy z0 ad X z.1 z.2) args s (2 * (z.2.2.2 - c0)) (52 * (z.2.2.2 - c0)) (fun q => z0 ≤ q)) (F0 m 110 ls []) := by
  have hx := hC.1
  have hb := hC.2.1
  have hmz : M.2.2 ≤ z.2.2.2 := mo_X11_right_110 hf
  unfold f_X11_right_110 at hf
  refine lv_aload_n hx hb dX11_right_110 rfl (lv_at hl 0 rfl) ?_
  refine rg_p hC hw 0 (Nat.le_of_ble_eq_true rfl) rfl fd_X11_1 wf_X11_19 (q := 3) rfl dX11_right_111 ?_
  obtain ⟨z15, ez15, hf⟩ := sq_e hf
  have mz15 : M.2.2 ≤ z15.2.2 := mo_X4_clear ez15.symm
  refine clc_Vv hC hw (c_X4_clear ez15.symm) hd_X4_clear cw_X11_192 (Nat.le_of_ble_eq_true rfl) rfl rfl (rest := []) hl.1 rfl (Nat.le_of_ble_eq_true rfl) ⟨Nat.le_of_ble_eq_true rfl, Nat.le_of_ble_eq_true rfl⟩ ⟨(show 2 * (M.2.2 - c0) ≤ 2 * (z.2.2.2 - c0) by omega), (show 52 * (M.2.2 - c0) ≤ 52 * (z.2.2.2 - c0) by omega)⟩ rfl dX11_right_114 (fun H locs hw => ?_)
  refine lv_aload_n hx hb dX11_right_117 rfl (lv_at hl 0 rfl) ?_
  refine rg_p hC hw 0 (Nat.le_of_ble_eq_true rfl) rfl fd_X11_1 wf_X11_19 (q := 3) rfl dX11_right_118 ?_
  refine lv_iload hx hb dX11_right_121 (lv_at hl 1 rfl) ?_
  refine lv_i2l hx hb dX11_right_123 rfl ?_
  obtain ⟨z16, ez16, hf⟩ := bd_e hf
  have mz16 : z15.2.2 ≤ z16.2.2 := mo_X4_add ez16
  refine clc_Vv hC hw (c_X4_add ez16) hd_X4_add cw_X11_214 (Nat.le_of_ble_eq_true rfl) rfl rfl (rest := []) hl.1 rfl (Nat.le_of_ble_eq_true rfl) ⟨Nat.le_of_ble_eq_true rfl, Nat.le_of_ble_eq_true rfl⟩ ⟨(show 2 * (M.2.2 - c0) ≤ 2 * (z.2.2.2 - c0) by omega), (show 52 * (M.2.2 - c0) ≤ 52 * (z.2.2.2 - c0) by omega)⟩ rfl dX11_right_124 (fun H locs hw => ?_)
  refine lv_iload hx hb dX11_right_127 (lv_at hl 1 rfl) ?_
  obtain ⟨z17, ez17, hf⟩ := sq_e hf
  refine clc_Si hC hw (c_J6_bitCount_0f7a4 ez17.symm) hd_J6_bitCount_0f7a4 cw_X11_308 (rest := []) hl.1 rfl (Nat.le_of_ble_eq_true rfl) ⟨Nat.le_of_ble_eq_true rfl, Nat.le_of_ble_eq_true rfl⟩ ⟨(show 2 * (M.2.2 - c0) ≤ 2 * (z.2.2.2 - c0) by omega), (show 52 * (M.2.2 - c0) ≤ 52 * (z.2.2.2 - c0) by omega)⟩ rfl dX11_right_129 (fun H locs hw => ?_)
  refine W.widen (k := 2 * (z.2.2.2 - c0)) (n := 52 * (z.2.2.2 - c0)) (by omega) (by omega) ?_
  have hz := Option.some.inj hf
  subst hz
  exact rta_i hC hw dX11_right_132
set_option maxRecDepth 100000 in
set_option maxHeartbeats 4000000 in
theorem k_X11_right_50 {p : Program} {l : Launch} {e : Env} {s : State} {m : MethodId} {args : Array Value} {below : List Frame} {meth : Method} {c : Code} {D : va_G} {cy : Nat → ClassId} {z0 : Nat} {ad : Nat → Nat} {X : va_W} {u : Nat × Nat} (hC : cx_C p s m args meth c cX11_right "RhymedThen" (Cond.code yX11_right cX11_right 6 (some .int)) 6 (some .int)) {z : (Int32 × mm_M)} {c0 : Nat} {x1 : Int32} {x4 : Int32} {x5 : Int32} {M : mm_M} (hc0 : c0 ≤ M.2.2) {q50 : Int32 → Int32 → Int32 → mm_M → Option (Int32 × mm_M)} (hq50 : ∀ (x1 : Int32) (x4 : Int32) (x5 : Int32) (M : mm_M) (u : Nat × Nat) (H : Heap) (locs : List Loc) (ls : Array Slot), c0 ≤ M.2.2 → q50 x1 x4 x5 M = some z → wd_in cx_T D cy z0 ad u M X s H locs → lv_has ls 6 [(0, .ref (ad 0)), (1, .int x1), (4, .int x4), (5, .int x5)] → W p l e { frames := 8, cells := 2 * (z.2.2.2 - c0), slots := 52 * (z.2.2.2 - c0), locals := 238 } s m args below meth c H locs (2 * (M.2.2 - c0)) (52 * (M.2.2 - c0)) (MQ below (aq_i cx_T D cy z0 ad X z.1 z.2) args s (2 * (z.2.2.2 - c0)) (52 * (z.2.2.2 - c0)) (fun q => z0 ≤ q)) (F0 m 50 ls [])) (hm50 : ∀ (x1 : Int32) (x4 : Int32) (x5 : Int32) (M : mm_M), q50 x1 x4 x5 M = some z → M.2.2 ≤ z.2.2.2) (hf : f_X11_right_50 q50 x1 x4 x5 M = some z) {H : Heap} {locs : List Loc} (hw : wd_in cx_T D cy z0 ad u M X s H locs) {ls : Array Slot} (hl : lv_has ls 6 [(0, .ref (ad 0)), (1, .int x1), (4, .int x4), (5, .int x5)]) : W p l e { frames := 8, cells := 2 * (z.2.2.2 - c0), slots := 52 * (z.2.2.2 - c0), locals := 238 } s m args below meth c H locs (2 * (M.2.2 - c0)) (52 * (M.2.2 - c0)) (MQ below (aq_i cx_T D cy z0 ad X z.1 z.2) args s (2 * (z.2.2.2 - c0)) (52 * (z.2.2.2 - c0)) (fun q => z0 ≤ q)) (F0 m 50 ls []) := by
  have hx := hC.1
  have hb := hC.2.1
  have hmz : M.2.2 ≤ z.2.2.2 := mo_X11_right_50 hm50 hf
  unfold f_X11_right_50 at hf
  refine lv_iload hx hb dX11_right_50 (lv_at hl 3 rfl) ?_
  refine lv_aload_n hx hb dX11_right_52 rfl (lv_at hl 0 rfl) ?_
  refine rg_p hC hw 0 (Nat.le_of_ble_eq_true rfl) rfl fd_X11_2 wf_X11_26 (q := 5) rfl dX11_right_53 ?_
  refine rg_i hC hw 5 (Nat.le_of_ble_eq_true rfl) rfl fd_X9_2 wf_X11_116 dX11_right_56 ?_
  refine lv_icmp_ge (tgt := 110) hx hb dX11_right_59 (by decide) (fun c8 => ?_) (fun c8 => ?_)
  · rw [if_pos c8] at hf
    refine W.widen (k := 2 * (M.2.2 - c0)) (n := 52 * (M.2.2 - c0)) (by omega) (by omega) ?_
    exact k_X11_right_110 hC (by omega) hf hw (lv_sub hl [0, 2] rfl)
  · rw [if_neg c8] at hf
    refine lv_aload_n hx hb dX11_right_62 rfl (lv_at hl 0 rfl) ?_
    refine rg_p hC hw 0 (Nat.le_of_ble_eq_true rfl) rfl fd_X11_6 wf_X11_58 (q := 39) rfl dX11_right_63 ?_
    refine rg_p hC hw 39 (Nat.le_of_ble_eq_true rfl) rfl fd_X10_0 wf_X11_352 (q := 40) rfl dX11_right_66 ?_
    refine lv_aload_n hx hb dX11_right_69 rfl (lv_at hl 0 rfl) ?_
    refine lv_iload hx hb dX11_right_70 (lv_at hl 3 rfl) ?_
    obtain ⟨z9, ez9, hf⟩ := bd_e hf
    have mz9 : M.2.2 ≤ z9.2.2.2 := mo_X11_likeliestWay ez9
    refine clc_Vi hC hw (c_X11_likeliestWay ez9) hd_X11_likeliestWay cw_X11_346 (Nat.le_of_ble_eq_true rfl) rfl rfl (rest := [.ref (ad 40)]) hl.1 rfl (Nat.le_of_ble_eq_true rfl) ⟨Nat.le_of_ble_eq_true rfl, Nat.le_of_ble_eq_true rfl⟩ ⟨(show 2 * (M.2.2 - c0) ≤ 2 * (z.2.2.2 - c0) by omega), (show 52 * (M.2.2 - c0) ≤ 52 * (z.2.2.2 - c0) by omega)⟩ rfl dX11_right_72 (fun H locs hw => ?_)
    obtain ⟨h10, hf⟩ := ck_e hf
    refine ra_l hC hw 40 (Nat.le_of_ble_eq_true rfl) rfl h10 dX11_right_75 ?_
    refine lv_aload_n hx hb dX11_right_76 rfl (lv_at hl 0 rfl) ?_
    refine rg_p hC hw 0 (Nat.le_of_ble_eq_true rfl) rfl fd_X11_2 wf_X11_26 (q := 5) rfl dX11_right_77 ?_
    refine lv_aload_n hx hb dX11_right_80 rfl (lv_at hl 0 rfl) ?_
    refine rg_p hC hw 0 (Nat.le_of_ble_eq_true rfl) rfl fd_X11_9 wf_X11_75 (q := 66) rfl dX11_right_81 ?_
    refine lv_iload_n hx hb dX11_right_84 rfl (lv_at hl 1 rfl) ?_
    obtain ⟨h11, hf⟩ := ck_e hf
    refine ra_i hC hw 66 (Nat.le_of_ble_eq_true rfl) rfl h11 dX11_right_85 ?_
    refine lv_iload hx hb dX11_right_86 (lv_at hl 3 rfl) ?_
    obtain ⟨z12, ez12, hf⟩ := bd_e hf
    refine clc_Vl hC hw (c_X9_formOn ez12) hd_X9_formOn cw_X11_198 (Nat.le_of_ble_eq_true rfl) rfl rfl (rest := [.long (z9.2.2.1 40 z9.1.toNatClampNeg)]) hl.1 rfl (Nat.le_of_ble_eq_true rfl) ⟨Nat.le_of_ble_eq_true rfl, Nat.le_of_ble_eq_true rfl⟩ ⟨(show 2 * (M.2.2 - c0) ≤ 2 * (z.2.2.2 - c0) by omega), (show 52 * (M.2.2 - c0) ≤ 52 * (z.2.2.2 - c0) by omega)⟩ rfl dX11_right_88 (fun H locs hw => ?_)
    refine lc_ne (tgt := 104) hx hb dX11_right_91 dX11_right_92 (by decide) (fun c13 => ?_) (fun c13 => ?_)
    · rw [if_neg c13] at hf
      refine W.widen (k := 2 * (z9.2.2.2 - c0)) (n := 52 * (z9.2.2.2 - c0)) (by omega) (by omega) ?_
      exact k_X11_right_104 hC (by omega) hq50 hm50 hf hw (lv_sub hl [0, 1, 2, 3] rfl)
    · rw [if_pos c13] at hf
      refine lv_iload hx hb dX11_right_95 (lv_at hl 2 rfl) ?_
      refine lv_iconst (v := 1) hx hb dX11_right_97 (by decide) ?_
      refine lv_iload hx hb dX11_right_98 (lv_at hl 3 rfl) ?_
      refine lv_ishl hx hb dX11_right_100 ?_
      refine lv_ior hx hb dX11_right_101 ?_
      obtain ⟨y14, ey14, hf⟩ := sq_e hf
      refine lt_i ey14 ?_
      refine lv_istore (lv' := [(4, .int y14), (0, .ref (ad 0)), (1, .int x1), (5, .int x5)]) hx hb dX11_right_102 hl (by decide) rfl (fun ls hl => ?_)
      refine W.widen (k := 2 * (z9.2.2.2 - c0)) (n := 52 * (z9.2.2.2 - c0)) (by omega) (by omega) ?_
      exact k_X11_right_104 hC (by omega) hq50 hm50 hf hw (lv_sub hl [1, 2, 0, 3] rfl)
set_option maxRecDepth 100000 in
set_option maxHeartbeats 4000000 in
theorem k_X11_right_50l {p : Program} {l : Launch} {e : Env} {s : State} {m : MethodId} {args : Array Value} {below : List Frame} {meth : Method} {c : Code} {D : va_G} {cy : Nat → ClassId} {z0 : Nat} {ad : Nat → Nat} {X : va_W} (hC : cx_C p s m args meth c cX11_right "RhymedThen" (Cond.code yX11_right cX11_right 6 (some .int)) 6 (some .int)) {z : (Int32 × mm_M)} {c0 : Nat} : ∀ (n : Nat) (x1 : Int32) (x4 : Int32) (x5 : Int32) (M : mm_M) (u : Nat × Nat) (H : Heap) (locs : List Loc) (ls : Array Slot), c0 ≤ M.2.2 → f_X11_right_50l n x1 x4 x5 M = some z → wd_in cx_T D cy z0 ad u M X s H locs → lv_has ls 6 [(0, .ref (ad 0)), (1, .int x1), (4, .int x4), (5, .int x5)] → W p l e { frames := 8, cells := 2 * (z.2.2.2 - c0), slots := 52 * (z.2.2.2 - c0), locals := 238 } s m args below meth c H locs (2 * (M.2.2 - c0)) (52 * (M.2.2 - c0)) (MQ below (aq_i cx_T D cy z0 ad X z.1 z.2) args s (2 * (z.2.2.2 - c0)) (52 * (z.2.2.2 - c0)) (fun q => z0 ≤ q)) (F0 m 50 ls []) := by
  intro n
  induction n with
  | zero => intro x1 x4 x5 M u H locs ls hc0 hf; exact absurd hf (by simp [f_X11_right_50l])
  | succ n ih => intro x1 x4 x5 M u H locs ls hc0 hf hw hl; exact k_X11_right_50 hC hc0 ih (mo_X11_right_50l n) hf hw hl
set_option maxRecDepth 100000 in
set_option maxHeartbeats 4000000 in
theorem k_X11_right_44 {p : Program} {l : Launch} {e : Env} {s : State} {m : MethodId} {args : Array Value} {below : List Frame} {meth : Method} {c : Code} {D : va_G} {cy : Nat → ClassId} {z0 : Nat} {ad : Nat → Nat} {X : va_W} {u : Nat × Nat} (hC : cx_C p s m args meth c cX11_right "RhymedThen" (Cond.code yX11_right cX11_right 6 (some .int)) 6 (some .int)) {z : (Int32 × mm_M)} {c0 : Nat} {x1 : Int32} {M : mm_M} (hc0 : c0 ≤ M.2.2) (hf : f_X11_right_44 x1 M = some z) {H : Heap} {locs : List Loc} (hw : wd_in cx_T D cy z0 ad u M X s H locs) {ls : Array Slot} (hl : lv_has ls 6 [(0, .ref (ad 0)), (1, .int x1)]) : W p l e { frames := 8, cells := 2 * (z.2.2.2 - c0), slots := 52 * (z.2.2.2 - c0), locals := 238 } s m args below meth c H locs (2 * (M.2.2 - c0)) (52 * (M.2.2 - c0)) (MQ below (aq_i cx_T D cy z0 ad X z.1 z.2) args s (2 * (z.2.2.2 - c0)) (52 * (z.2.2.2 - c0)) (fun q => z0 ≤ q)) (F0 m 44 ls []) := by
  have hx := hC.1
  have hb := hC.2.1
  have hmz : M.2.2 ≤ z.2.2.2 := mo_X11_right_44 hf
  unfold f_X11_right_44 at hf
  refine lv_iconst (v := 0) hx hb dX11_right_44 (by decide) ?_
  refine lv_istore (lv' := [(4, .int 0), (0, .ref (ad 0)), (1, .int x1)]) hx hb dX11_right_45 hl (by decide) rfl (fun ls hl => ?_)
  refine lv_iconst (v := 0) hx hb dX11_right_47 (by decide) ?_
  refine lv_istore (lv' := [(5, .int 0), (4, .int 0), (0, .ref (ad 0)), (1, .int x1)]) hx hb dX11_right_48 hl (by decide) rfl (fun ls hl => ?_)
  refine W.widen (k := 2 * (M.2.2 - c0)) (n := 52 * (M.2.2 - c0)) (by omega) (by omega) ?_
  exact k_X11_right_50l hC fu_ _ _ _ _ _ _ _ _ (by omega) hf hw (lv_sub hl [2, 3, 1, 0] rfl)
set_option maxRecDepth 100000 in
set_option maxHeartbeats 4000000 in
theorem k_X11_right_26 {p : Program} {l : Launch} {e : Env} {s : State} {m : MethodId} {args : Array Value} {below : List Frame} {meth : Method} {c : Code} {D : va_G} {cy : Nat → ClassId} {z0 : Nat} {ad : Nat → Nat} {X : va_W} {u : Nat × Nat} (hC : cx_C p s m args meth c cX11_right "RhymedThen" (Cond.code yX11_right cX11_right 6 (some .int)) 6 (some .int)) {z : (Int32 × mm_M)} {c0 : Nat} {x1 : Int32} {x2 : Int32} {x3 : Int32} {M : mm_M} (hc0 : c0 ≤ M.2.2) (hf : f_X11_right_26 x1 x2 x3 M = some z) {H : Heap} {locs : List Loc} (hw : wd_in cx_T D cy z0 ad u M X s H locs) {ls : Array Slot} (hl : lv_has ls 6 [(0, .ref (ad 0)), (1, .int x1), (2, .int x2), (3, .int x3)]) : W p l e { frames := 8, cells := 2 * (z.2.2.2 - c0), slots := 52 * (z.2.2.2 - c0), locals := 238 } s m args below meth c H locs (2 * (M.2.2 - c0)) (52 * (M.2.2 - c0)) (MQ below (aq_i cx_T D cy z0 ad X z.1 z.2) args s (2 * (z.2.2.2 - c0)) (52 * (z.2.2.2 - c0)) (fun q => z0 ≤ q)) (F0 m 26 ls []) := by
  have hx := hC.1
  have hb := hC.2.1
  have hmz : M.2.2 ≤ z.2.2.2 := mo_X11_right_26 hf
  unfold f_X11_right_26 at hf
  refine lv_aload_n hx hb dX11_right_26 rfl (lv_at hl 0 rfl) ?_
  refine lv_aload_n hx hb dX11_right_27 rfl (lv_at hl 0 rfl) ?_
  refine rg_p hC hw 0 (Nat.le_of_ble_eq_true rfl) rfl fd_X11_4 wf_X11_44 (q := 19) rfl dX11_right_28 ?_
  refine rg_i hC hw 19 (Nat.le_of_ble_eq_true rfl) rfl fd_X6_4 wf_X11_283 dX11_right_31 ?_
  obtain ⟨z6, ez6, hf⟩ := bd_e hf
  have mz6 : M.2.2 ≤ z6.2.2.2 := mo_X11_weighAll ez6
  refine clc_Vl hC hw (c_X11_weighAll ez6) hd_X11_weighAll cw_X11_332 (Nat.le_of_ble_eq_true rfl) rfl rfl (rest := []) hl.1 rfl (Nat.le_of_ble_eq_true rfl) ⟨Nat.le_of_ble_eq_true rfl, Nat.le_of_ble_eq_true rfl⟩ ⟨(show 2 * (M.2.2 - c0) ≤ 2 * (z.2.2.2 - c0) by omega), (show 52 * (M.2.2 - c0) ≤ 52 * (z.2.2.2 - c0) by omega)⟩ rfl dX11_right_34 (fun H locs hw => ?_)
  refine lv_pop2_2 hx hb dX11_right_37 rfl ?_
  refine lv_aload_n hx hb dX11_right_38 rfl (lv_at hl 0 rfl) ?_
  refine lv_iload_n hx hb dX11_right_39 rfl (lv_at hl 2 rfl) ?_
  refine lv_iload_n hx hb dX11_right_40 rfl (lv_at hl 3 rfl) ?_
  obtain ⟨z7, ez7, hf⟩ := bd_e hf
  have mz7 : z6.2.2.2 ≤ z7.2.2 := mo_X11_walkAll ez7
  have hnz : z7.2.2 ≤ z.2.2.2 := mo_X11_right_44 hf
  refine cla_Vv hC hw (c_X11_walkAll ez7) hd_X11_walkAll cw_X11_343 (Nat.le_of_ble_eq_true rfl) rfl rfl (rest := []) hl.1 rfl (Nat.le_of_ble_eq_true rfl) ⟨Nat.le_of_ble_eq_true rfl, Nat.le_of_ble_eq_true rfl⟩ ⟨(show 2 * (M.2.2 - c0) + 2 * (z7.2.2 - z6.2.2.2) ≤ 2 * (z.2.2.2 - c0) by omega), (show 52 * (M.2.2 - c0) + 52 * (z7.2.2 - z6.2.2.2) ≤ 52 * (z.2.2.2 - c0) by omega)⟩ rfl dX11_right_41 (fun u H locs hw => ?_)
  refine W.widen (k := 2 * (z7.2.2 - c0)) (n := 52 * (z7.2.2 - c0)) (by omega) (by omega) ?_
  exact k_X11_right_44 hC (by omega) hf hw (lv_sub hl [0, 1] rfl)
set_option maxRecDepth 100000 in
set_option maxHeartbeats 4000000 in
theorem k_X11_right {p : Program} {l : Launch} {e : Env} {s : State} {m : MethodId} {args : Array Value} {below : List Frame} {meth : Method} {c : Code} {D : va_G} {cy : Nat → ClassId} {z0 : Nat} {ad : Nat → Nat} {X : va_W} {u : Nat × Nat} (hC : cx_C p s m args meth c cX11_right "RhymedThen" (Cond.code yX11_right cX11_right 6 (some .int)) 6 (some .int)) {z : (Int32 × mm_M)} {c0 : Nat} {x1 : Int32} {x2 : Int32} {x3 : Int32} {M : mm_M} (hc0 : c0 ≤ M.2.2) (hf : f_X11_right x1 x2 x3 M = some z) {H : Heap} {locs : List Loc} (hw : wd_in cx_T D cy z0 ad u M X s H locs) {ls : Array Slot} (hl : lv_has ls 6 [(0, .ref (ad 0)), (1, .int x1), (2, .int x2), (3, .int x3)]) : W p l e { frames := 8, cells := 2 * (z.2.2.2 - c0), slots := 52 * (z.2.2.2 - c0), locals := 238 } s m args below meth c H locs (2 * (M.2.2 - c0)) (52 * (M.2.2 - c0)) (MQ below (aq_i cx_T D cy z0 ad X z.1 z.2) args s (2 * (z.2.2.2 - c0)) (52 * (z.2.2.2 - c0)) (fun q => z0 ≤ q)) (F0 m 0 ls []) := by
  have hx := hC.1
  have hb := hC.2.1
  have hmz : M.2.2 ≤ z.2.2.2 := mo_X11_right hf
  unfold f_X11_right at hf
  refine lv_aload_n hx hb dX11_right_0 rfl (lv_at hl 0 rfl) ?_
  refine lv_iload_n hx hb dX11_right_1 rfl (lv_at hl 1 rfl) ?_
  refine lv_iload_n hx hb dX11_right_2 rfl (lv_at hl 2 rfl) ?_
  refine lv_iload_n hx hb dX11_right_3 rfl (lv_at hl 3 rfl) ?_
  obtain ⟨z1, ez1, hf⟩ := sq_e hf
  refine clc_Vi hC hw (c_X11_isThenAndThere ez1.symm) hd_X11_isThenAndThere cw_X11_188 (Nat.le_of_ble_eq_true rfl) rfl rfl (rest := []) hl.1 rfl (Nat.le_of_ble_eq_true rfl) ⟨Nat.le_of_ble_eq_true rfl, Nat.le_of_ble_eq_true rfl⟩ ⟨(show 2 * (M.2.2 - c0) ≤ 2 * (z.2.2.2 - c0) by omega), (show 52 * (M.2.2 - c0) ≤ 52 * (z.2.2.2 - c0) by omega)⟩ rfl dX11_right_4 (fun H locs hw => ?_)
  refine lv_if_eq (tgt := 17) hx hb dX11_right_7 (by decide) (fun c2 => ?_) (fun c2 => ?_)
  · rw [if_pos c2] at hf
    refine lv_iconst (v := (-1)) hx hb dX11_right_17 (by decide) ?_
    refine W.widen (k := 2 * (z.2.2.2 - c0)) (n := 52 * (z.2.2.2 - c0)) (by omega) (by omega) ?_
    have hz := Option.some.inj hf
    subst hz
    exact rta_i hC hw dX11_right_18
  · rw [if_neg c2] at hf
    refine lv_aload_n hx hb dX11_right_10 rfl (lv_at hl 0 rfl) ?_
    obtain ⟨z3, ez3, hf⟩ := sq_e hf
    refine clc_Vi hC hw (c_X11_tooManyToWeigh ez3.symm) hd_X11_tooManyToWeigh cw_X11_339 (Nat.le_of_ble_eq_true rfl) rfl rfl (rest := []) hl.1 rfl (Nat.le_of_ble_eq_true rfl) ⟨Nat.le_of_ble_eq_true rfl, Nat.le_of_ble_eq_true rfl⟩ ⟨(show 2 * (M.2.2 - c0) ≤ 2 * (z.2.2.2 - c0) by omega), (show 52 * (M.2.2 - c0) ≤ 52 * (z.2.2.2 - c0) by omega)⟩ rfl dX11_right_11 (fun H locs hw => ?_)
    refine lv_if_eq (tgt := 19) hx hb dX11_right_14 (by decide) (fun c4 => ?_) (fun c4 => ?_)
    · rw [if_pos c4] at hf
      refine lv_aload_n hx hb dX11_right_19 rfl (lv_at hl 0 rfl) ?_
      refine rg_p hC hw 0 (Nat.le_of_ble_eq_true rfl) rfl fd_X11_4 wf_X11_44 (q := 19) rfl dX11_right_20 ?_
      obtain ⟨z5, ez5, hf⟩ := bd_e hf
      have mz5 : M.2.2 ≤ z5.2.2 := mo_X6_lookAnew ez5
      have hnz : z5.2.2 ≤ z.2.2.2 := mo_X11_right_26 hf
      refine cla_Vv hC hw (c_X6_lookAnew ez5) hd_X6_lookAnew cw_X11_286 (Nat.le_of_ble_eq_true rfl) rfl rfl (rest := []) hl.1 rfl (Nat.le_of_ble_eq_true rfl) ⟨Nat.le_of_ble_eq_true rfl, Nat.le_of_ble_eq_true rfl⟩ ⟨(show 2 * (M.2.2 - c0) + 2 * (z5.2.2 - M.2.2) ≤ 2 * (z.2.2.2 - c0) by omega), (show 52 * (M.2.2 - c0) + 52 * (z5.2.2 - M.2.2) ≤ 52 * (z.2.2.2 - c0) by omega)⟩ rfl dX11_right_23 (fun u H locs hw => ?_)
      refine W.widen (k := 2 * (z5.2.2 - c0)) (n := 52 * (z5.2.2 - c0)) (by omega) (by omega) ?_
      exact k_X11_right_26 hC (by omega) hf hw (lv_sub hl [0, 1, 2, 3] rfl)
    · rw [if_neg c4] at hf
      refine lv_iconst (v := (-1)) hx hb dX11_right_17 (by decide) ?_
      refine W.widen (k := 2 * (z.2.2.2 - c0)) (n := 52 * (z.2.2.2 - c0)) (by omega) (by omega) ?_
      have hz := Option.some.inj hf
      subst hz
      exact rta_i hC hw dX11_right_18
set_option maxRecDepth 100000 in
theorem c_X11_right {l : Launch} {D : va_G} {cy : Nat → ClassId} {z0 : Nat} {ad : Nat → Nat} {u : Nat × Nat} {X : va_W} {z : (Int32 × mm_M)} {x1 : Int32} {x2 : Int32} {x3 : Int32} {M : mm_M} (hf : f_X11_right x1 x2 x3 M = some z) : ca_i cx_T l yX11_right (Cond.code yX11_right cX11_right 6 (some .int)) 8 238 D cy z0 ad u M X [.ref (ad 0), .int x1, .int x2, .int x3] z.1 z.2 := by
  refine bga_i (by decide) (fun p e s m below meth c hC hw => ?_)
  refine en_t (Nat.le_of_ble_eq_true rfl) (fun ls hl => ?_)
  have hl : lv_has ls 6 [(0, .ref (ad 0)), (1, .int x1), (2, .int x2), (3, .int x3)] := hl
  refine W.widen (k := 2 * (M.2.2 - M.2.2)) (n := 52 * (M.2.2 - M.2.2)) (by omega) (by omega) ?_
  exact k_X11_right hC (Nat.le_refl _) hf hw hl
set_option maxRecDepth 100000 in
set_option maxHeartbeats 4000000 in
theorem k_X11_likely_65 {p : Program} {l : Launch} {e : Env} {s : State} {m : MethodId} {args : Array Value} {below : List Frame} {meth : Method} {c : Code} {D : va_G} {cy : Nat → ClassId} {z0 : Nat} {ad : Nat → Nat} {X : va_W} {u : Nat × Nat} (hC : cx_C p s m args meth c cX11_likely "RhymedThen" (Cond.code yX11_likely cX11_likely 5 (some .int)) 5 (some .int)) {z : (Int32 × mm_M)} {c0 : Nat} {x1 : Int64} {x3 : Int32} {x4 : Int32} {M : mm_M} (hc0 : c0 ≤ M.2.2) {q33 : Int64 → Int32 → Int32 → mm_M → Option (Int32 × mm_M)} (hq33 : ∀ (x1 : Int64) (x3 : Int32) (x4 : Int32) (M : mm_M) (u : Nat × Nat) (H : Heap) (locs : List Loc) (ls : Array Slot), c0 ≤ M.2.2 → q33 x1 x3 x4 M = some z → wd_in cx_T D cy z0 ad u M X s H locs → lv_has ls 5 [(0, .ref (ad 0)), (1, .long x1), (3, .int x3), (4, .int x4)] → W p l e { frames := 8, cells := 2 * (z.2.2.2 - c0), slots := 52 * (z.2.2.2 - c0), locals := 238 } s m args below meth c H locs (2 * (M.2.2 - c0)) (52 * (M.2.2 - c0)) (MQ below (aq_i cx_T D cy z0 ad X z.1 z.2) args s (2 * (z.2.2.2 - c0)) (52 * (z.2.2.2 - c0)) (fun q => z0 ≤ q)) (F0 m 33 ls [])) (hm33 : ∀ (x1 : Int64) (x3 : Int32) (x4 : Int32) (M : mm_M), q33 x1 x3 x4 M = some z → M.2.2 ≤ z.2.2.2) (hf : f_X11_likely_65 q33 x1 x3 x4 M = some z) {H : Heap} {locs : List Loc} (hw : wd_in cx_T D cy z0 ad u M X s H locs) {ls : Array Slot} (hl : lv_has ls 5 [(0, .ref (ad 0)), (1, .long x1), (3, .int x3), (4, .int x4)]) : W p l e { frames := 8, cells := 2 * (z.2.2.2 - c0), slots := 52 * (z.2.2.2 - c0), locals := 238 } s m args below meth c H locs (2 * (M.2.2 - c0)) (52 * (M.2.2 - c0)) (MQ below (aq_i cx_T D cy z0 ad X z.1 z.2) args s (2 * (z.2.2.2 - c0)) (52 * (z.2.2.2 - c0)) (fun q => z0 ≤ q)) (F0 m 65 ls []) := by
  have hx := hC.1
  have hb := hC.2.1
  have hmz : M.2.2 ≤ z.2.2.2 := mo_X11_likely_65 hm33 hf
  unfold f_X11_likely_65 at hf
  obtain ⟨y12, ey12, hf⟩ := sq_e hf
  refine lv_iinc (v := y12) (lv' := [(4, .int y12), (0, .ref (ad 0)), (1, .long x1), (3, .int x3)]) hx hb dX11_likely_65 hl (k := 3) rfl (by rw [ey12]; rfl) (by decide) rfl (fun ls hl => ?_)
  refine lv_goto (tgt := 33) hx hb dX11_likely_68 (by decide) ?_
  refine W.widen (k := 2 * (M.2.2 - c0)) (n := 52 * (M.2.2 - c0)) (by omega) (by omega) ?_
  exact hq33 _ _ _ _ _ _ _ _ (by omega) hf hw (lv_sub hl [1, 2, 3, 0] rfl)
set_option maxRecDepth 100000 in
set_option maxHeartbeats 4000000 in
theorem k_X11_likely_71 {p : Program} {l : Launch} {e : Env} {s : State} {m : MethodId} {args : Array Value} {below : List Frame} {meth : Method} {c : Code} {D : va_G} {cy : Nat → ClassId} {z0 : Nat} {ad : Nat → Nat} {X : va_W} {u : Nat × Nat} (hC : cx_C p s m args meth c cX11_likely "RhymedThen" (Cond.code yX11_likely cX11_likely 5 (some .int)) 5 (some .int)) {z : (Int32 × mm_M)} {c0 : Nat} {x1 : Int64} {x3 : Int32} {M : mm_M} (hc0 : c0 ≤ M.2.2) (hf : f_X11_likely_71 x1 x3 M = some z) {H : Heap} {locs : List Loc} (hw : wd_in cx_T D cy z0 ad u M X s H locs) {ls : Array Slot} (hl : lv_has ls 5 [(0, .ref (ad 0)), (1, .long x1), (3, .int x3)]) : W p l e { frames := 8, cells := 2 * (z.2.2.2 - c0), slots := 52 * (z.2.2.2 - c0), locals := 238 } s m args below meth c H locs (2 * (M.2.2 - c0)) (52 * (M.2.2 - c0)) (MQ below (aq_i cx_T D cy z0 ad X z.1 z.2) args s (2 * (z.2.2.2 - c0)) (52 * (z.2.2.2 - c0)) (fun q => z0 ≤ q)) (F0 m 71 ls []) := by
  have hx := hC.1
  have hb := hC.2.1
  have hmz : M.2.2 ≤ z.2.2.2 := mo_X11_likely_71 hf
  unfold f_X11_likely_71 at hf
  refine lv_aload_n hx hb dX11_likely_71 rfl (lv_at hl 0 rfl) ?_
  refine rg_p hC hw 0 (Nat.le_of_ble_eq_true rfl) rfl fd_X11_1 wf_X11_19 (q := 3) rfl dX11_likely_72 ?_
  obtain ⟨z9, ez9, hf⟩ := sq_e hf
  have mz9 : M.2.2 ≤ z9.2.2 := mo_X4_clear ez9.symm
  refine clc_Vv hC hw (c_X4_clear ez9.symm) hd_X4_clear cw_X11_192 (Nat.le_of_ble_eq_true rfl) rfl rfl (rest := []) hl.1 rfl (Nat.le_of_ble_eq_true rfl) ⟨Nat.le_of_ble_eq_true rfl, Nat.le_of_ble_eq_true rfl⟩ ⟨(show 2 * (M.2.2 - c0) ≤ 2 * (z.2.2.2 - c0) by omega), (show 52 * (M.2.2 - c0) ≤ 52 * (z.2.2.2 - c0) by omega)⟩ rfl dX11_likely_75 (fun H locs hw => ?_)
  refine lv_aload_n hx hb dX11_likely_78 rfl (lv_at hl 0 rfl) ?_
  refine rg_p hC hw 0 (Nat.le_of_ble_eq_true rfl) rfl fd_X11_1 wf_X11_19 (q := 3) rfl dX11_likely_79 ?_
  refine lv_aload_n hx hb dX11_likely_82 rfl (lv_at hl 0 rfl) ?_
  refine rg_p hC hw 0 (Nat.le_of_ble_eq_true rfl) rfl fd_X11_10 wf_X11_79 (q := 67) rfl dX11_likely_83 ?_
  refine lv_iload_n hx hb dX11_likely_86 rfl (lv_at hl 2 rfl) ?_
  obtain ⟨h10, hf⟩ := ck_e hf
  refine ra_l hC hw 67 (Nat.le_of_ble_eq_true rfl) rfl h10 dX11_likely_87 ?_
  refine lv_lload_n hx hb dX11_likely_88 rfl (lv_at hl 1 rfl) ?_
  obtain ⟨z11, ez11, hf⟩ := bd_e hf
  have mz11 : z9.2.2 ≤ z11.2.2 := mo_X4_addFraction ez11
  refine clc_Vv hC hw (c_X4_addFraction ez11) hd_X4_addFraction cw_X11_231 (Nat.le_of_ble_eq_true rfl) rfl rfl (rest := []) hl.1 rfl (Nat.le_of_ble_eq_true rfl) ⟨Nat.le_of_ble_eq_true rfl, Nat.le_of_ble_eq_true rfl⟩ ⟨(show 2 * (M.2.2 - c0) ≤ 2 * (z.2.2.2 - c0) by omega), (show 52 * (M.2.2 - c0) ≤ 52 * (z.2.2.2 - c0) by omega)⟩ rfl dX11_likely_89 (fun H locs hw => ?_)
  refine lv_iload_n hx hb dX11_likely_92 rfl (lv_at hl 2 rfl) ?_
  refine W.widen (k := 2 * (z.2.2.2 - c0)) (n := 52 * (z.2.2.2 - c0)) (by omega) (by omega) ?_
  have hz := Option.some.inj hf
  subst hz
  exact rta_i hC hw dX11_likely_93
set_option maxRecDepth 100000 in
set_option maxHeartbeats 4000000 in
theorem k_X11_likely_33 {p : Program} {l : Launch} {e : Env} {s : State} {m : MethodId} {args : Array Value} {below : List Frame} {meth : Method} {c : Code} {D : va_G} {cy : Nat → ClassId} {z0 : Nat} {ad : Nat → Nat} {X : va_W} {u : Nat × Nat} (hC : cx_C p s m args meth c cX11_likely "RhymedThen" (Cond.code yX11_likely cX11_likely 5 (some .int)) 5 (some .int)) {z : (Int32 × mm_M)} {c0 : Nat} {x1 : Int64} {x3 : Int32} {x4 : Int32} {M : mm_M} (hc0 : c0 ≤ M.2.2) {q33 : Int64 → Int32 → Int32 → mm_M → Option (Int32 × mm_M)} (hq33 : ∀ (x1 : Int64) (x3 : Int32) (x4 : Int32) (M : mm_M) (u : Nat × Nat) (H : Heap) (locs : List Loc) (ls : Array Slot), c0 ≤ M.2.2 → q33 x1 x3 x4 M = some z → wd_in cx_T D cy z0 ad u M X s H locs → lv_has ls 5 [(0, .ref (ad 0)), (1, .long x1), (3, .int x3), (4, .int x4)] → W p l e { frames := 8, cells := 2 * (z.2.2.2 - c0), slots := 52 * (z.2.2.2 - c0), locals := 238 } s m args below meth c H locs (2 * (M.2.2 - c0)) (52 * (M.2.2 - c0)) (MQ below (aq_i cx_T D cy z0 ad X z.1 z.2) args s (2 * (z.2.2.2 - c0)) (52 * (z.2.2.2 - c0)) (fun q => z0 ≤ q)) (F0 m 33 ls [])) (hm33 : ∀ (x1 : Int64) (x3 : Int32) (x4 : Int32) (M : mm_M), q33 x1 x3 x4 M = some z → M.2.2 ≤ z.2.2.2) (hf : f_X11_likely_33 q33 x1 x3 x4 M = some z) {H : Heap} {locs : List Loc} (hw : wd_in cx_T D cy z0 ad u M X s H locs) {ls : Array Slot} (hl : lv_has ls 5 [(0, .ref (ad 0)), (1, .long x1), (3, .int x3), (4, .int x4)]) : W p l e { frames := 8, cells := 2 * (z.2.2.2 - c0), slots := 52 * (z.2.2.2 - c0), locals := 238 } s m args below meth c H locs (2 * (M.2.2 - c0)) (52 * (M.2.2 - c0)) (MQ below (aq_i cx_T D cy z0 ad X z.1 z.2) args s (2 * (z.2.2.2 - c0)) (52 * (z.2.2.2 - c0)) (fun q => z0 ≤ q)) (F0 m 33 ls []) := by
  have hx := hC.1
  have hb := hC.2.1
  have hmz : M.2.2 ≤ z.2.2.2 := mo_X11_likely_33 hm33 hf
  unfold f_X11_likely_33 at hf
  refine lv_iload hx hb dX11_likely_33 (lv_at hl 3 rfl) ?_
  refine lv_aload_n hx hb dX11_likely_35 rfl (lv_at hl 0 rfl) ?_
  refine rg_p hC hw 0 (Nat.le_of_ble_eq_true rfl) rfl fd_X11_3 wf_X11_35 (q := 14) rfl dX11_likely_36 ?_
  refine rg_i hC hw 14 (Nat.le_of_ble_eq_true rfl) rfl fd_X3_2 wf_X11_144 dX11_likely_39 ?_
  refine lv_icmp_ge (tgt := 71) hx hb dX11_likely_42 (by decide) (fun c5 => ?_) (fun c5 => ?_)
  · rw [if_pos c5] at hf
    refine W.widen (k := 2 * (M.2.2 - c0)) (n := 52 * (M.2.2 - c0)) (by omega) (by omega) ?_
    exact k_X11_likely_71 hC (by omega) hf hw (lv_sub hl [0, 1, 2] rfl)
  · rw [if_neg c5] at hf
    refine lv_aload_n hx hb dX11_likely_45 rfl (lv_at hl 0 rfl) ?_
    refine rg_p hC hw 0 (Nat.le_of_ble_eq_true rfl) rfl fd_X11_10 wf_X11_79 (q := 67) rfl dX11_likely_46 ?_
    refine lv_iload hx hb dX11_likely_49 (lv_at hl 3 rfl) ?_
    obtain ⟨h6, hf⟩ := ck_e hf
    refine ra_l hC hw 67 (Nat.le_of_ble_eq_true rfl) rfl h6 dX11_likely_51 ?_
    refine lv_aload_n hx hb dX11_likely_52 rfl (lv_at hl 0 rfl) ?_
    refine rg_p hC hw 0 (Nat.le_of_ble_eq_true rfl) rfl fd_X11_10 wf_X11_79 (q := 67) rfl dX11_likely_53 ?_
    refine lv_iload_n hx hb dX11_likely_56 rfl (lv_at hl 2 rfl) ?_
    obtain ⟨h7, hf⟩ := ck_e hf
    refine ra_l hC hw 67 (Nat.le_of_ble_eq_true rfl) rfl h7 dX11_likely_57 ?_
    refine lc_le (tgt := 65) hx hb dX11_likely_58 dX11_likely_59 (by decide) (fun c8 => ?_) (fun c8 => ?_)
    · rw [if_pos c8] at hf
      refine W.widen (k := 2 * (M.2.2 - c0)) (n := 52 * (M.2.2 - c0)) (by omega) (by omega) ?_
      exact k_X11_likely_65 hC (by omega) hq33 hm33 hf hw (lv_sub hl [0, 1, 2, 3] rfl)
    · rw [if_neg c8] at hf
      refine lv_iload hx hb dX11_likely_62 (lv_at hl 3 rfl) ?_
      refine lv_istore_n (lv' := [(3, .int x4), (0, .ref (ad 0)), (1, .long x1), (4, .int x4)]) hx hb dX11_likely_64 rfl hl (by decide) rfl (fun ls hl => ?_)
      refine W.widen (k := 2 * (M.2.2 - c0)) (n := 52 * (M.2.2 - c0)) (by omega) (by omega) ?_
      exact k_X11_likely_65 hC (by omega) hq33 hm33 hf hw (lv_sub hl [1, 2, 0, 3] rfl)
set_option maxRecDepth 100000 in
set_option maxHeartbeats 4000000 in
theorem k_X11_likely_33l {p : Program} {l : Launch} {e : Env} {s : State} {m : MethodId} {args : Array Value} {below : List Frame} {meth : Method} {c : Code} {D : va_G} {cy : Nat → ClassId} {z0 : Nat} {ad : Nat → Nat} {X : va_W} (hC : cx_C p s m args meth c cX11_likely "RhymedThen" (Cond.code yX11_likely cX11_likely 5 (some .int)) 5 (some .int)) {z : (Int32 × mm_M)} {c0 : Nat} : ∀ (n : Nat) (x1 : Int64) (x3 : Int32) (x4 : Int32) (M : mm_M) (u : Nat × Nat) (H : Heap) (locs : List Loc) (ls : Array Slot), c0 ≤ M.2.2 → f_X11_likely_33l n x1 x3 x4 M = some z → wd_in cx_T D cy z0 ad u M X s H locs → lv_has ls 5 [(0, .ref (ad 0)), (1, .long x1), (3, .int x3), (4, .int x4)] → W p l e { frames := 8, cells := 2 * (z.2.2.2 - c0), slots := 52 * (z.2.2.2 - c0), locals := 238 } s m args below meth c H locs (2 * (M.2.2 - c0)) (52 * (M.2.2 - c0)) (MQ below (aq_i cx_T D cy z0 ad X z.1 z.2) args s (2 * (z.2.2.2 - c0)) (52 * (z.2.2.2 - c0)) (fun q => z0 ≤ q)) (F0 m 33 ls []) := by
  intro n
  induction n with
  | zero => intro x1 x3 x4 M u H locs ls hc0 hf; exact absurd hf (by simp [f_X11_likely_33l])
  | succ n ih => intro x1 x3 x4 M u H locs ls hc0 hf hw hl; exact k_X11_likely_33 hC hc0 ih (mo_X11_likely_33l n) hf hw hl
set_option maxRecDepth 100000 in
set_option maxHeartbeats 4000000 in
theorem k_X11_likely_16 {p : Program} {l : Launch} {e : Env} {s : State} {m : MethodId} {args : Array Value} {below : List Frame} {meth : Method} {c : Code} {D : va_G} {cy : Nat → ClassId} {z0 : Nat} {ad : Nat → Nat} {X : va_W} {u : Nat × Nat} (hC : cx_C p s m args meth c cX11_likely "RhymedThen" (Cond.code yX11_likely cX11_likely 5 (some .int)) 5 (some .int)) {z : (Int32 × mm_M)} {c0 : Nat} {M : mm_M} (hc0 : c0 ≤ M.2.2) (hf : f_X11_likely_16 M = some z) {H : Heap} {locs : List Loc} (hw : wd_in cx_T D cy z0 ad u M X s H locs) {ls : Array Slot} (hl : lv_has ls 5 [(0, .ref (ad 0))]) : W p l e { frames := 8, cells := 2 * (z.2.2.2 - c0), slots := 52 * (z.2.2.2 - c0), locals := 238 } s m args below meth c H locs (2 * (M.2.2 - c0)) (52 * (M.2.2 - c0)) (MQ below (aq_i cx_T D cy z0 ad X z.1 z.2) args s (2 * (z.2.2.2 - c0)) (52 * (z.2.2.2 - c0)) (fun q => z0 ≤ q)) (F0 m 16 ls []) := by
  have hx := hC.1
  have hb := hC.2.1
  have hmz : M.2.2 ≤ z.2.2.2 := mo_X11_likely_16 hf
  unfold f_X11_likely_16 at hf
  refine lv_aload_n hx hb dX11_likely_16 rfl (lv_at hl 0 rfl) ?_
  refine lv_aload_n hx hb dX11_likely_17 rfl (lv_at hl 0 rfl) ?_
  refine rg_p hC hw 0 (Nat.le_of_ble_eq_true rfl) rfl fd_X11_4 wf_X11_44 (q := 19) rfl dX11_likely_18 ?_
  refine rg_i hC hw 19 (Nat.le_of_ble_eq_true rfl) rfl fd_X6_4 wf_X11_283 dX11_likely_21 ?_
  obtain ⟨z4, ez4, hf⟩ := bd_e hf
  have mz4 : M.2.2 ≤ z4.2.2.2 := mo_X11_weighAll ez4
  refine clc_Vl hC hw (c_X11_weighAll ez4) hd_X11_weighAll cw_X11_332 (Nat.le_of_ble_eq_true rfl) rfl rfl (rest := []) hl.1 rfl (Nat.le_of_ble_eq_true rfl) ⟨Nat.le_of_ble_eq_true rfl, Nat.le_of_ble_eq_true rfl⟩ ⟨(show 2 * (M.2.2 - c0) ≤ 2 * (z.2.2.2 - c0) by omega), (show 52 * (M.2.2 - c0) ≤ 52 * (z.2.2.2 - c0) by omega)⟩ rfl dX11_likely_24 (fun H locs hw => ?_)
  refine lv_lstore_n (lv' := [(1, .long z4.1), (0, .ref (ad 0))]) hx hb dX11_likely_27 rfl hl (by decide) rfl (fun ls hl => ?_)
  refine lv_iconst (v := 0) hx hb dX11_likely_28 (by decide) ?_
  refine lv_istore_n (lv' := [(3, .int 0), (1, .long z4.1), (0, .ref (ad 0))]) hx hb dX11_likely_29 rfl hl (by decide) rfl (fun ls hl => ?_)
  refine lv_iconst (v := 1) hx hb dX11_likely_30 (by decide) ?_
  refine lv_istore (lv' := [(4, .int 1), (3, .int 0), (1, .long z4.1), (0, .ref (ad 0))]) hx hb dX11_likely_31 hl (by decide) rfl (fun ls hl => ?_)
  refine W.widen (k := 2 * (z4.2.2.2 - c0)) (n := 52 * (z4.2.2.2 - c0)) (by omega) (by omega) ?_
  exact k_X11_likely_33l hC fu_ _ _ _ _ _ _ _ _ (by omega) hf hw (lv_sub hl [3, 2, 1, 0] rfl)
set_option maxRecDepth 100000 in
set_option maxHeartbeats 4000000 in
theorem k_X11_likely {p : Program} {l : Launch} {e : Env} {s : State} {m : MethodId} {args : Array Value} {below : List Frame} {meth : Method} {c : Code} {D : va_G} {cy : Nat → ClassId} {z0 : Nat} {ad : Nat → Nat} {X : va_W} {u : Nat × Nat} (hC : cx_C p s m args meth c cX11_likely "RhymedThen" (Cond.code yX11_likely cX11_likely 5 (some .int)) 5 (some .int)) {z : (Int32 × mm_M)} {c0 : Nat} {M : mm_M} (hc0 : c0 ≤ M.2.2) (hf : f_X11_likely M = some z) {H : Heap} {locs : List Loc} (hw : wd_in cx_T D cy z0 ad u M X s H locs) {ls : Array Slot} (hl : lv_has ls 5 [(0, .ref (ad 0))]) : W p l e { frames := 8, cells := 2 * (z.2.2.2 - c0), slots := 52 * (z.2.2.2 - c0), locals := 238 } s m args below meth c H locs (2 * (M.2.2 - c0)) (52 * (M.2.2 - c0)) (MQ below (aq_i cx_T D cy z0 ad X z.1 z.2) args s (2 * (z.2.2.2 - c0)) (52 * (z.2.2.2 - c0)) (fun q => z0 ≤ q)) (F0 m 0 ls []) := by
  have hx := hC.1
  have hb := hC.2.1
  have hmz : M.2.2 ≤ z.2.2.2 := mo_X11_likely hf
  unfold f_X11_likely at hf
  refine lv_aload_n hx hb dX11_likely_0 rfl (lv_at hl 0 rfl) ?_
  obtain ⟨z1, ez1, hf⟩ := sq_e hf
  refine clc_Vi hC hw (c_X11_tooManyToWeigh ez1.symm) hd_X11_tooManyToWeigh cw_X11_339 (Nat.le_of_ble_eq_true rfl) rfl rfl (rest := []) hl.1 rfl (Nat.le_of_ble_eq_true rfl) ⟨Nat.le_of_ble_eq_true rfl, Nat.le_of_ble_eq_true rfl⟩ ⟨(show 2 * (M.2.2 - c0) ≤ 2 * (z.2.2.2 - c0) by omega), (show 52 * (M.2.2 - c0) ≤ 52 * (z.2.2.2 - c0) by omega)⟩ rfl dX11_likely_1 (fun H locs hw => ?_)
  refine lv_if_eq (tgt := 9) hx hb dX11_likely_4 (by decide) (fun c2 => ?_) (fun c2 => ?_)
  · rw [if_pos c2] at hf
    refine lv_aload_n hx hb dX11_likely_9 rfl (lv_at hl 0 rfl) ?_
    refine rg_p hC hw 0 (Nat.le_of_ble_eq_true rfl) rfl fd_X11_4 wf_X11_44 (q := 19) rfl dX11_likely_10 ?_
    obtain ⟨z3, ez3, hf⟩ := bd_e hf
    have mz3 : M.2.2 ≤ z3.2.2 := mo_X6_lookAnew ez3
    have hnz : z3.2.2 ≤ z.2.2.2 := mo_X11_likely_16 hf
    refine cla_Vv hC hw (c_X6_lookAnew ez3) hd_X6_lookAnew cw_X11_286 (Nat.le_of_ble_eq_true rfl) rfl rfl (rest := []) hl.1 rfl (Nat.le_of_ble_eq_true rfl) ⟨Nat.le_of_ble_eq_true rfl, Nat.le_of_ble_eq_true rfl⟩ ⟨(show 2 * (M.2.2 - c0) + 2 * (z3.2.2 - M.2.2) ≤ 2 * (z.2.2.2 - c0) by omega), (show 52 * (M.2.2 - c0) + 52 * (z3.2.2 - M.2.2) ≤ 52 * (z.2.2.2 - c0) by omega)⟩ rfl dX11_likely_13 (fun u H locs hw => ?_)
    refine W.widen (k := 2 * (z3.2.2 - c0)) (n := 52 * (z3.2.2 - c0)) (by omega) (by omega) ?_
    exact k_X11_likely_16 hC (by omega) hf hw (lv_sub hl [0] rfl)
  · rw [if_neg c2] at hf
    refine lv_iconst (v := (-1)) hx hb dX11_likely_7 (by decide) ?_
    refine W.widen (k := 2 * (z.2.2.2 - c0)) (n := 52 * (z.2.2.2 - c0)) (by omega) (by omega) ?_
    have hz := Option.some.inj hf
    subst hz
    exact rta_i hC hw dX11_likely_8
set_option maxRecDepth 100000 in
theorem c_X11_likely {l : Launch} {D : va_G} {cy : Nat → ClassId} {z0 : Nat} {ad : Nat → Nat} {u : Nat × Nat} {X : va_W} {z : (Int32 × mm_M)} {M : mm_M} (hf : f_X11_likely M = some z) : ca_i cx_T l yX11_likely (Cond.code yX11_likely cX11_likely 5 (some .int)) 8 238 D cy z0 ad u M X [.ref (ad 0)] z.1 z.2 := by
  refine bga_i (by decide) (fun p e s m below meth c hC hw => ?_)
  refine en_t (Nat.le_of_ble_eq_true rfl) (fun ls hl => ?_)
  have hl : lv_has ls 5 [(0, .ref (ad 0))] := hl
  refine W.widen (k := 2 * (M.2.2 - M.2.2)) (n := 52 * (M.2.2 - M.2.2)) (by omega) (by omega) ?_
  exact k_X11_likely hC (Nat.le_refl _) hf hw hl
set_option maxRecDepth 100000 in
set_option maxHeartbeats 4000000 in
theorem k_X6_fitCount_29 {p : Program} {l : Launch} {e : Env} {s : State} {m : MethodId} {args : Array Value} {below : List Frame} {meth : Method} {c : Code} {D : va_G} {cy : Nat → ClassId} {z0 : Nat} {ad : Nat → Nat} {X : va_W} {u : Nat × Nat} (hC : cx_C p s m args meth c cX6_fitCount "RhymedThen$Signs" (Cond.code yX6_fitCount cX6_fitCount 3 (some .int)) 3 (some .int)) {z : Int32} {x2 : Int32} {t0 : Int32} {t1 : Int32} {M : mm_M} {q4 : Int32 → Int32 → Option Int32} (hq4 : ∀ (x1 : Int32) (x2 : Int32) (H : Heap) (locs : List Loc) (ls : Array Slot), q4 x1 x2 = some z → wd_in cx_T D cy z0 ad u M X s H locs → lv_has ls 3 [(0, .ref (ad 19)), (1, .int x1), (2, .int x2)] → W p l e { frames := 1, cells := 0, slots := 0, locals := 21 } s m args below meth c H locs 0 0 (MQ below (cq_i cx_T D cy z0 ad u X z M) args s 0 0 (fun q => z0 ≤ q)) (F0 m 4 ls [])) (hf : f_X6_fitCount_29 q4 x2 t0 t1 M = some z) {H : Heap} {locs : List Loc} (hw : wd_in cx_T D cy z0 ad u M X s H locs) {ls : Array Slot} (hl : lv_has ls 3 [(0, .ref (ad 19)), (2, .int x2)]) : W p l e { frames := 1, cells := 0, slots := 0, locals := 21 } s m args below meth c H locs 0 0 (MQ below (cq_i cx_T D cy z0 ad u X z M) args s 0 0 (fun q => z0 ≤ q)) (F0 m 29 ls [.int t1, .int t0]) := by
  have hx := hC.1
  have hb := hC.2.1
  unfold f_X6_fitCount_29 at hf
  refine lv_iadd hx hb dX6_fitCount_29 ?_
  obtain ⟨y4, ey4, hf⟩ := sq_e hf
  refine lt_i ey4 ?_
  refine lv_istore_n (lv' := [(1, .int y4), (0, .ref (ad 19)), (2, .int x2)]) hx hb dX6_fitCount_30 rfl hl (by decide) rfl (fun ls hl => ?_)
  obtain ⟨y5, ey5, hf⟩ := sq_e hf
  refine lv_iinc (v := y5) (lv' := [(2, .int y5), (1, .int y4), (0, .ref (ad 19))]) hx hb dX6_fitCount_31 hl (k := 2) rfl (by rw [ey5]; rfl) (by decide) rfl (fun ls hl => ?_)
  refine lv_goto (tgt := 4) hx hb dX6_fitCount_34 (by decide) ?_
  exact hq4 _ _ _ _ _ hf hw (lv_sub hl [2, 1, 0] rfl)
set_option maxRecDepth 100000 in
set_option maxHeartbeats 4000000 in
theorem k_X6_fitCount_4 {p : Program} {l : Launch} {e : Env} {s : State} {m : MethodId} {args : Array Value} {below : List Frame} {meth : Method} {c : Code} {D : va_G} {cy : Nat → ClassId} {z0 : Nat} {ad : Nat → Nat} {X : va_W} {u : Nat × Nat} (hC : cx_C p s m args meth c cX6_fitCount "RhymedThen$Signs" (Cond.code yX6_fitCount cX6_fitCount 3 (some .int)) 3 (some .int)) {z : Int32} {x1 : Int32} {x2 : Int32} {M : mm_M} {q4 : Int32 → Int32 → Option Int32} (hq4 : ∀ (x1 : Int32) (x2 : Int32) (H : Heap) (locs : List Loc) (ls : Array Slot), q4 x1 x2 = some z → wd_in cx_T D cy z0 ad u M X s H locs → lv_has ls 3 [(0, .ref (ad 19)), (1, .int x1), (2, .int x2)] → W p l e { frames := 1, cells := 0, slots := 0, locals := 21 } s m args below meth c H locs 0 0 (MQ below (cq_i cx_T D cy z0 ad u X z M) args s 0 0 (fun q => z0 ≤ q)) (F0 m 4 ls [])) (hf : f_X6_fitCount_4 q4 x1 x2 M = some z) {H : Heap} {locs : List Loc} (hw : wd_in cx_T D cy z0 ad u M X s H locs) {ls : Array Slot} (hl : lv_has ls 3 [(0, .ref (ad 19)), (1, .int x1), (2, .int x2)]) : W p l e { frames := 1, cells := 0, slots := 0, locals := 21 } s m args below meth c H locs 0 0 (MQ below (cq_i cx_T D cy z0 ad u X z M) args s 0 0 (fun q => z0 ≤ q)) (F0 m 4 ls []) := by
  have hx := hC.1
  have hb := hC.2.1
  unfold f_X6_fitCount_4 at hf
  refine lv_iload_n hx hb dX6_fitCount_4 rfl (lv_at hl 2 rfl) ?_
  refine lv_aload_n hx hb dX6_fitCount_5 rfl (lv_at hl 0 rfl) ?_
  refine rg_p hC hw 19 (Nat.le_of_ble_eq_true rfl) rfl fd_X6_1 wf_X6_35 (q := 14) rfl dX6_fitCount_6 ?_
  refine rg_i hC hw 14 (Nat.le_of_ble_eq_true rfl) rfl fd_X3_2 wf_X6_59 dX6_fitCount_9 ?_
  refine lv_icmp_ge (tgt := 37) hx hb dX6_fitCount_12 (by decide) (fun c1 => ?_) (fun c1 => ?_)
  · rw [if_pos c1] at hf
    refine lv_iload_n hx hb dX6_fitCount_37 rfl (lv_at hl 1 rfl) ?_
    have hz := Option.some.inj hf
    subst hz
    exact rtc_i hC hw dX6_fitCount_38
  · rw [if_neg c1] at hf
    refine lv_iload_n hx hb dX6_fitCount_15 rfl (lv_at hl 1 rfl) ?_
    refine lv_aload_n hx hb dX6_fitCount_16 rfl (lv_at hl 0 rfl) ?_
    refine lv_iload_n hx hb dX6_fitCount_17 rfl (lv_at hl 2 rfl) ?_
    obtain ⟨z2, ez2, hf⟩ := bd_e hf
    refine clc_Vi hC hw (c_X6_fitsTo ez2) hd_X6_fitsTo cw_X6_70 (Nat.le_of_ble_eq_true rfl) rfl rfl (rest := [.int x1]) hl.1 rfl (Nat.le_of_ble_eq_true rfl) ⟨Nat.le_of_ble_eq_true rfl, Nat.le_of_ble_eq_true rfl⟩ ⟨Nat.zero_le _, Nat.zero_le _⟩ rfl dX6_fitCount_18 (fun H locs hw => ?_)
    refine lv_if_eq (tgt := 28) hx hb dX6_fitCount_21 (by decide) (fun c3 => ?_) (fun c3 => ?_)
    · rw [if_pos c3] at hf
      refine lv_iconst (v := 0) hx hb dX6_fitCount_28 (by decide) ?_
      exact k_X6_fitCount_29 hC hq4 hf hw (lv_sub hl [0, 2] rfl)
    · rw [if_neg c3] at hf
      refine lv_iconst (v := 1) hx hb dX6_fitCount_24 (by decide) ?_
      refine lv_goto (tgt := 29) hx hb dX6_fitCount_25 (by decide) ?_
      exact k_X6_fitCount_29 hC hq4 hf hw (lv_sub hl [0, 2] rfl)
set_option maxRecDepth 100000 in
set_option maxHeartbeats 4000000 in
theorem k_X6_fitCount_4l {p : Program} {l : Launch} {e : Env} {s : State} {m : MethodId} {args : Array Value} {below : List Frame} {meth : Method} {c : Code} {D : va_G} {cy : Nat → ClassId} {z0 : Nat} {ad : Nat → Nat} {X : va_W} {u : Nat × Nat} (hC : cx_C p s m args meth c cX6_fitCount "RhymedThen$Signs" (Cond.code yX6_fitCount cX6_fitCount 3 (some .int)) 3 (some .int)) {z : Int32} {M : mm_M} : ∀ (n : Nat) (x1 : Int32) (x2 : Int32) (H : Heap) (locs : List Loc) (ls : Array Slot), f_X6_fitCount_4l M n x1 x2 = some z → wd_in cx_T D cy z0 ad u M X s H locs → lv_has ls 3 [(0, .ref (ad 19)), (1, .int x1), (2, .int x2)] → W p l e { frames := 1, cells := 0, slots := 0, locals := 21 } s m args below meth c H locs 0 0 (MQ below (cq_i cx_T D cy z0 ad u X z M) args s 0 0 (fun q => z0 ≤ q)) (F0 m 4 ls []) := by
  intro n
  induction n with
  | zero => intro x1 x2 H locs ls hf; exact absurd hf (by simp [f_X6_fitCount_4l])
  | succ n ih => intro x1 x2 H locs ls hf hw hl; exact k_X6_fitCount_4 hC ih hf hw hl
set_option maxRecDepth 100000 in
set_option maxHeartbeats 4000000 in
theorem k_X6_fitCount {p : Program} {l : Launch} {e : Env} {s : State} {m : MethodId} {args : Array Value} {below : List Frame} {meth : Method} {c : Code} {D : va_G} {cy : Nat → ClassId} {z0 : Nat} {ad : Nat → Nat} {X : va_W} {u : Nat × Nat} (hC : cx_C p s m args meth c cX6_fitCount "RhymedThen$Signs" (Cond.code yX6_fitCount cX6_fitCount 3 (some .int)) 3 (some .int)) {z : Int32} {M : mm_M} (hf : f_X6_fitCount M = some z) {H : Heap} {locs : List Loc} (hw : wd_in cx_T D cy z0 ad u M X s H locs) {ls : Array Slot} (hl : lv_has ls 3 [(0, .ref (ad 19))]) : W p l e { frames := 1, cells := 0, slots := 0, locals := 21 } s m args below meth c H locs 0 0 (MQ below (cq_i cx_T D cy z0 ad u X z M) args s 0 0 (fun q => z0 ≤ q)) (F0 m 0 ls []) := by
  have hx := hC.1
  have hb := hC.2.1
  unfold f_X6_fitCount at hf
  refine lv_iconst (v := 0) hx hb dX6_fitCount_0 (by decide) ?_
  refine lv_istore_n (lv' := [(1, .int 0), (0, .ref (ad 19))]) hx hb dX6_fitCount_1 rfl hl (by decide) rfl (fun ls hl => ?_)
  refine lv_iconst (v := 0) hx hb dX6_fitCount_2 (by decide) ?_
  refine lv_istore_n (lv' := [(2, .int 0), (1, .int 0), (0, .ref (ad 19))]) hx hb dX6_fitCount_3 rfl hl (by decide) rfl (fun ls hl => ?_)
  exact k_X6_fitCount_4l hC fu_ _ _ _ _ _ hf hw (lv_sub hl [2, 1, 0] rfl)
set_option maxRecDepth 100000 in
theorem c_X6_fitCount {l : Launch} {D : va_G} {cy : Nat → ClassId} {z0 : Nat} {ad : Nat → Nat} {u : Nat × Nat} {X : va_W} {z : Int32} {M : mm_M} (hf : f_X6_fitCount M = some z) : ct_i cx_T l yX6_fitCount (Cond.code yX6_fitCount cX6_fitCount 3 (some .int)) 1 21 D cy z0 ad u M X [.ref (ad 19)] z M := by
  refine bgc_i (by decide) (fun p e s m below meth c hC hw => ?_)
  refine en_t (Nat.le_of_ble_eq_true rfl) (fun ls hl => ?_)
  have hl : lv_has ls 3 [(0, .ref (ad 19))] := hl
  exact k_X6_fitCount hC hf hw hl
set_option maxRecDepth 100000 in
set_option maxHeartbeats 4000000 in
theorem k_X6_fitCountHolding_38 {p : Program} {l : Launch} {e : Env} {s : State} {m : MethodId} {args : Array Value} {below : List Frame} {meth : Method} {c : Code} {D : va_G} {cy : Nat → ClassId} {z0 : Nat} {ad : Nat → Nat} {X : va_W} {u : Nat × Nat} (hC : cx_C p s m args meth c cX6_fitCountHolding "RhymedThen$Signs" (Cond.code yX6_fitCountHolding cX6_fitCountHolding 4 (some .int)) 4 (some .int)) {z : Int32} {x1 : Int32} {x3 : Int32} {t0 : Int32} {t1 : Int32} {M : mm_M} {q4 : Int32 → Int32 → Int32 → Option Int32} (hq4 : ∀ (x1 : Int32) (x2 : Int32) (x3 : Int32) (H : Heap) (locs : List Loc) (ls : Array Slot), q4 x1 x2 x3 = some z → wd_in cx_T D cy z0 ad u M X s H locs → lv_has ls 4 [(0, .ref (ad 19)), (1, .int x1), (2, .int x2), (3, .int x3)] → W p l e { frames := 1, cells := 0, slots := 0, locals := 21 } s m args below meth c H locs 0 0 (MQ below (cq_i cx_T D cy z0 ad u X z M) args s 0 0 (fun q => z0 ≤ q)) (F0 m 4 ls [])) (hf : f_X6_fitCountHolding_38 q4 x1 x3 t0 t1 M = some z) {H : Heap} {locs : List Loc} (hw : wd_in cx_T D cy z0 ad u M X s H locs) {ls : Array Slot} (hl : lv_has ls 4 [(0, .ref (ad 19)), (1, .int x1), (3, .int x3)]) : W p l e { frames := 1, cells := 0, slots := 0, locals := 21 } s m args below meth c H locs 0 0 (MQ below (cq_i cx_T D cy z0 ad u X z M) args s 0 0 (fun q => z0 ≤ q)) (F0 m 38 ls [.int t1, .int t0]) := by
  have hx := hC.1
  have hb := hC.2.1
  unfold f_X6_fitCountHolding_38 at hf
  refine lv_iadd hx hb dX6_fitCountHolding_38 ?_
  obtain ⟨y5, ey5, hf⟩ := sq_e hf
  refine lt_i ey5 ?_
  refine lv_istore_n (lv' := [(2, .int y5), (0, .ref (ad 19)), (1, .int x1), (3, .int x3)]) hx hb dX6_fitCountHolding_39 rfl hl (by decide) rfl (fun ls hl => ?_)
  obtain ⟨y6, ey6, hf⟩ := sq_e hf
  refine lv_iinc (v := y6) (lv' := [(3, .int y6), (2, .int y5), (0, .ref (ad 19)), (1, .int x1)]) hx hb dX6_fitCountHolding_40 hl (k := 3) rfl (by rw [ey6]; rfl) (by decide) rfl (fun ls hl => ?_)
  refine lv_goto (tgt := 4) hx hb dX6_fitCountHolding_43 (by decide) ?_
  exact hq4 _ _ _ _ _ _ hf hw (lv_sub hl [2, 3, 1, 0] rfl)
set_option maxRecDepth 100000 in
set_option maxHeartbeats 4000000 in
theorem k_X6_fitCountHolding_4 {p : Program} {l : Launch} {e : Env} {s : State} {m : MethodId} {args : Array Value} {below : List Frame} {meth : Method} {c : Code} {D : va_G} {cy : Nat → ClassId} {z0 : Nat} {ad : Nat → Nat} {X : va_W} {u : Nat × Nat} (hC : cx_C p s m args meth c cX6_fitCountHolding "RhymedThen$Signs" (Cond.code yX6_fitCountHolding cX6_fitCountHolding 4 (some .int)) 4 (some .int)) {z : Int32} {x1 : Int32} {x2 : Int32} {x3 : Int32} {M : mm_M} {q4 : Int32 → Int32 → Int32 → Option Int32} (hq4 : ∀ (x1 : Int32) (x2 : Int32) (x3 : Int32) (H : Heap) (locs : List Loc) (ls : Array Slot), q4 x1 x2 x3 = some z → wd_in cx_T D cy z0 ad u M X s H locs → lv_has ls 4 [(0, .ref (ad 19)), (1, .int x1), (2, .int x2), (3, .int x3)] → W p l e { frames := 1, cells := 0, slots := 0, locals := 21 } s m args below meth c H locs 0 0 (MQ below (cq_i cx_T D cy z0 ad u X z M) args s 0 0 (fun q => z0 ≤ q)) (F0 m 4 ls [])) (hf : f_X6_fitCountHolding_4 q4 x1 x2 x3 M = some z) {H : Heap} {locs : List Loc} (hw : wd_in cx_T D cy z0 ad u M X s H locs) {ls : Array Slot} (hl : lv_has ls 4 [(0, .ref (ad 19)), (1, .int x1), (2, .int x2), (3, .int x3)]) : W p l e { frames := 1, cells := 0, slots := 0, locals := 21 } s m args below meth c H locs 0 0 (MQ below (cq_i cx_T D cy z0 ad u X z M) args s 0 0 (fun q => z0 ≤ q)) (F0 m 4 ls []) := by
  have hx := hC.1
  have hb := hC.2.1
  unfold f_X6_fitCountHolding_4 at hf
  refine lv_iload_n hx hb dX6_fitCountHolding_4 rfl (lv_at hl 3 rfl) ?_
  refine lv_aload_n hx hb dX6_fitCountHolding_5 rfl (lv_at hl 0 rfl) ?_
  refine rg_p hC hw 19 (Nat.le_of_ble_eq_true rfl) rfl fd_X6_1 wf_X6_35 (q := 14) rfl dX6_fitCountHolding_6 ?_
  refine rg_i hC hw 14 (Nat.le_of_ble_eq_true rfl) rfl fd_X3_2 wf_X6_59 dX6_fitCountHolding_9 ?_
  refine lv_icmp_ge (tgt := 46) hx hb dX6_fitCountHolding_12 (by decide) (fun c1 => ?_) (fun c1 => ?_)
  · rw [if_pos c1] at hf
    refine lv_iload_n hx hb dX6_fitCountHolding_46 rfl (lv_at hl 2 rfl) ?_
    have hz := Option.some.inj hf
    subst hz
    exact rtc_i hC hw dX6_fitCountHolding_47
  · rw [if_neg c1] at hf
    refine lv_iload_n hx hb dX6_fitCountHolding_15 rfl (lv_at hl 2 rfl) ?_
    refine lv_aload_n hx hb dX6_fitCountHolding_16 rfl (lv_at hl 0 rfl) ?_
    refine lv_iload_n hx hb dX6_fitCountHolding_17 rfl (lv_at hl 3 rfl) ?_
    obtain ⟨z2, ez2, hf⟩ := bd_e hf
    refine clc_Vi hC hw (c_X6_fitsTo ez2) hd_X6_fitsTo cw_X6_70 (Nat.le_of_ble_eq_true rfl) rfl rfl (rest := [.int x2]) hl.1 rfl (Nat.le_of_ble_eq_true rfl) ⟨Nat.le_of_ble_eq_true rfl, Nat.le_of_ble_eq_true rfl⟩ ⟨Nat.zero_le _, Nat.zero_le _⟩ rfl dX6_fitCountHolding_18 (fun H locs hw => ?_)
    refine lv_if_eq (tgt := 37) hx hb dX6_fitCountHolding_21 (by decide) (fun c3 => ?_) (fun c3 => ?_)
    · rw [if_pos c3] at hf
      refine lv_iconst (v := 0) hx hb dX6_fitCountHolding_37 (by decide) ?_
      exact k_X6_fitCountHolding_38 hC hq4 hf hw (lv_sub hl [0, 1, 3] rfl)
    · rw [if_neg c3] at hf
      refine lv_aload_n hx hb dX6_fitCountHolding_24 rfl (lv_at hl 0 rfl) ?_
      refine rg_p hC hw 19 (Nat.le_of_ble_eq_true rfl) rfl fd_X6_5 wf_X6_24 (q := 21) rfl dX6_fitCountHolding_25 ?_
      refine lv_iload_n hx hb dX6_fitCountHolding_28 rfl (lv_at hl 3 rfl) ?_
      obtain ⟨h4, hf⟩ := ck_e hf
      refine ra_i hC hw 21 (Nat.le_of_ble_eq_true rfl) rfl h4 dX6_fitCountHolding_29 ?_
      refine lv_iload_n hx hb dX6_fitCountHolding_30 rfl (lv_at hl 1 rfl) ?_
      refine lv_ishr hx hb dX6_fitCountHolding_31 ?_
      refine lv_iconst (v := 1) hx hb dX6_fitCountHolding_32 (by decide) ?_
      refine lv_iand hx hb dX6_fitCountHolding_33 ?_
      refine lv_goto (tgt := 38) hx hb dX6_fitCountHolding_34 (by decide) ?_
      exact k_X6_fitCountHolding_38 hC hq4 hf hw (lv_sub hl [0, 1, 3] rfl)
set_option maxRecDepth 100000 in
set_option maxHeartbeats 4000000 in
theorem k_X6_fitCountHolding_4l {p : Program} {l : Launch} {e : Env} {s : State} {m : MethodId} {args : Array Value} {below : List Frame} {meth : Method} {c : Code} {D : va_G} {cy : Nat → ClassId} {z0 : Nat} {ad : Nat → Nat} {X : va_W} {u : Nat × Nat} (hC : cx_C p s m args meth c cX6_fitCountHolding "RhymedThen$Signs" (Cond.code yX6_fitCountHolding cX6_fitCountHolding 4 (some .int)) 4 (some .int)) {z : Int32} {M : mm_M} : ∀ (n : Nat) (x1 : Int32) (x2 : Int32) (x3 : Int32) (H : Heap) (locs : List Loc) (ls : Array Slot), f_X6_fitCountHolding_4l M n x1 x2 x3 = some z → wd_in cx_T D cy z0 ad u M X s H locs → lv_has ls 4 [(0, .ref (ad 19)), (1, .int x1), (2, .int x2), (3, .int x3)] → W p l e { frames := 1, cells := 0, slots := 0, locals := 21 } s m args below meth c H locs 0 0 (MQ below (cq_i cx_T D cy z0 ad u X z M) args s 0 0 (fun q => z0 ≤ q)) (F0 m 4 ls []) := by
  intro n
  induction n with
  | zero => intro x1 x2 x3 H locs ls hf; exact absurd hf (by simp [f_X6_fitCountHolding_4l])
  | succ n ih => intro x1 x2 x3 H locs ls hf hw hl; exact k_X6_fitCountHolding_4 hC ih hf hw hl
set_option maxRecDepth 100000 in
set_option maxHeartbeats 4000000 in
theorem k_X6_fitCountHolding {p : Program} {l : Launch} {e : Env} {s : State} {m : MethodId} {args : Array Value} {below : List Frame} {meth : Method} {c : Code} {D : va_G} {cy : Nat → ClassId} {z0 : Nat} {ad : Nat → Nat} {X : va_W} {u : Nat × Nat} (hC : cx_C p s m args meth c cX6_fitCountHolding "RhymedThen$Signs" (Cond.code yX6_fitCountHolding cX6_fitCountHolding 4 (some .int)) 4 (some .int)) {z : Int32} {x1 : Int32} {M : mm_M} (hf : f_X6_fitCountHolding x1 M = some z) {H : Heap} {locs : List Loc} (hw : wd_in cx_T D cy z0 ad u M X s H locs) {ls : Array Slot} (hl : lv_has ls 4 [(0, .ref (ad 19)), (1, .int x1)]) : W p l e { frames := 1, cells := 0, slots := 0, locals := 21 } s m args below meth c H locs 0 0 (MQ below (cq_i cx_T D cy z0 ad u X z M) args s 0 0 (fun q => z0 ≤ q)) (F0 m 0 ls []) := by
  have hx := hC.1
  have hb := hC.2.1
  unfold f_X6_fitCountHolding at hf
  refine lv_iconst (v := 0) hx hb dX6_fitCountHolding_0 (by decide) ?_
  refine lv_istore_n (lv' := [(2, .int 0), (0, .ref (ad 19)), (1, .int x1)]) hx hb dX6_fitCountHolding_1 rfl hl (by decide) rfl (fun ls hl => ?_)
  refine lv_iconst (v := 0) hx hb dX6_fitCountHolding_2 (by decide) ?_
  refine lv_istore_n (lv' := [(3, .int 0), (2, .int 0), (0, .ref (ad 19)), (1, .int x1)]) hx hb dX6_fitCountHolding_3 rfl hl (by decide) rfl (fun ls hl => ?_)
  exact k_X6_fitCountHolding_4l hC fu_ _ _ _ _ _ _ hf hw (lv_sub hl [2, 3, 1, 0] rfl)
set_option maxRecDepth 100000 in
theorem c_X6_fitCountHolding {l : Launch} {D : va_G} {cy : Nat → ClassId} {z0 : Nat} {ad : Nat → Nat} {u : Nat × Nat} {X : va_W} {z : Int32} {x1 : Int32} {M : mm_M} (hf : f_X6_fitCountHolding x1 M = some z) : ct_i cx_T l yX6_fitCountHolding (Cond.code yX6_fitCountHolding cX6_fitCountHolding 4 (some .int)) 1 21 D cy z0 ad u M X [.ref (ad 19), .int x1] z M := by
  refine bgc_i (by decide) (fun p e s m below meth c hC hw => ?_)
  refine en_t (Nat.le_of_ble_eq_true rfl) (fun ls hl => ?_)
  have hl : lv_has ls 4 [(0, .ref (ad 19)), (1, .int x1)] := hl
  exact k_X6_fitCountHolding hC hf hw hl
set_option maxRecDepth 100000 in
set_option maxHeartbeats 4000000 in
theorem k_X11_isMoreEven {p : Program} {l : Launch} {e : Env} {s : State} {m : MethodId} {args : Array Value} {below : List Frame} {meth : Method} {c : Code} {T : wd_T} {D : va_G} {cy : Nat → ClassId} {z0 : Nat} {ad : Nat → Nat} {X : va_W} {M : mm_M} {u : Nat × Nat} (hC : cx_C p s m args meth c cX11_isMoreEven "RhymedThen" (Cond.code yX11_isMoreEven cX11_isMoreEven 3 (some .boolean)) 3 (some .boolean)) {z : Int32} {x0 : Int32} {x1 : Int32} {x2 : Int32} (hf : f_X11_isMoreEven x0 x1 x2 = z) {H : Heap} {locs : List Loc} (hw : wd_in T D cy z0 ad u M X s H locs) {ls : Array Slot} (hl : lv_has ls 3 [(0, .int x0), (1, .int x1), (2, .int x2)]) : W p l e { frames := 1, cells := 0, slots := 0, locals := 21 } s m args below meth c H locs 0 0 (MQ below (cq_i T D cy z0 ad u X z M) args s 0 0 (fun q => z0 ≤ q)) (F0 m 0 ls []) := by
  have hx := hC.1
  have hb := hC.2.1
  unfold f_X11_isMoreEven at hf
  refine lv_iconst (v := 2) hx hb dX11_isMoreEven_0 (by decide) ?_
  refine lv_iload_n hx hb dX11_isMoreEven_1 rfl (lv_at hl 0 rfl) ?_
  refine lv_imul hx hb dX11_isMoreEven_2 ?_
  refine lv_iload_n hx hb dX11_isMoreEven_3 rfl (lv_at hl 2 rfl) ?_
  refine lv_isub hx hb dX11_isMoreEven_4 ?_
  refine mx_abs hC (rest := []) wm_X11_367 hl.1 ⟨Nat.le_of_ble_eq_true rfl, Nat.le_of_ble_eq_true rfl⟩ ⟨Nat.zero_le _, Nat.zero_le _⟩ dX11_isMoreEven_5 ?_
  refine lv_iconst (v := 2) hx hb dX11_isMoreEven_8 (by decide) ?_
  refine lv_iload_n hx hb dX11_isMoreEven_9 rfl (lv_at hl 1 rfl) ?_
  refine lv_imul hx hb dX11_isMoreEven_10 ?_
  refine lv_iload_n hx hb dX11_isMoreEven_11 rfl (lv_at hl 2 rfl) ?_
  refine lv_isub hx hb dX11_isMoreEven_12 ?_
  refine mx_abs hC (rest := [.int (if 0 ≤ ((2 * x0) - x2) then ((2 * x0) - x2) else 0 - ((2 * x0) - x2))]) wm_X11_367 hl.1 ⟨Nat.le_of_ble_eq_true rfl, Nat.le_of_ble_eq_true rfl⟩ ⟨Nat.zero_le _, Nat.zero_le _⟩ dX11_isMoreEven_13 ?_
  refine lv_icmp_ge (tgt := 23) hx hb dX11_isMoreEven_16 (by decide) (fun c1 => ?_) (fun c1 => ?_)
  · rw [if_pos c1] at hf
    refine lv_iconst (v := 0) hx hb dX11_isMoreEven_23 (by decide) ?_
    subst hf
    exact rtc_z hC hw (Or.inl rfl) dX11_isMoreEven_24
  · rw [if_neg c1] at hf
    refine lv_iconst (v := 1) hx hb dX11_isMoreEven_19 (by decide) ?_
    refine lv_goto (tgt := 24) hx hb dX11_isMoreEven_20 (by decide) ?_
    subst hf
    exact rtc_z hC hw (Or.inr rfl) dX11_isMoreEven_24
set_option maxRecDepth 100000 in
theorem c_X11_isMoreEven {l : Launch} {T : wd_T} {D : va_G} {cy : Nat → ClassId} {z0 : Nat} {ad : Nat → Nat} {u : Nat × Nat} {X : va_W} {z : Int32} {x0 : Int32} {x1 : Int32} {x2 : Int32} {M : mm_M} (hf : f_X11_isMoreEven x0 x1 x2 = z) : ct_i T l yX11_isMoreEven (Cond.code yX11_isMoreEven cX11_isMoreEven 3 (some .boolean)) 1 21 D cy z0 ad u M X [.int x0, .int x1, .int x2] z M := by
  refine bgc_i (by decide) (fun p e s m below meth c hC hw => ?_)
  refine en_t (Nat.le_of_ble_eq_true rfl) (fun ls hl => ?_)
  have hl : lv_has ls 3 [(0, .int x0), (1, .int x1), (2, .int x2)] := hl
  exact k_X11_isMoreEven hC hf hw hl
set_option maxRecDepth 100000 in
set_option maxHeartbeats 4000000 in
theorem k_X11_next_111 {p : Program} {l : Launch} {e : Env} {s : State} {m : MethodId} {args : Array Value} {below : List Frame} {meth : Method} {c : Code} {D : va_G} {cy : Nat → ClassId} {z0 : Nat} {ad : Nat → Nat} {X : va_W} {u : Nat × Nat} (hC : cx_C p s m args meth c cX11_next "RhymedThen" (Cond.code yX11_next cX11_next 6 (some .int)) 6 (some .int)) {z : (Int32 × mm_M)} {c0 : Nat} {x1 : Int32} {x2 : Int32} {x3 : Int32} {x4 : Int32} {M : mm_M} (hc0 : c0 ≤ M.2.2) {q52 : Int32 → Int32 → Int32 → Int32 → mm_M → Option (Int32 × mm_M)} (hq52 : ∀ (x1 : Int32) (x2 : Int32) (x3 : Int32) (x4 : Int32) (M : mm_M) (u : Nat × Nat) (H : Heap) (locs : List Loc) (ls : Array Slot), c0 ≤ M.2.2 → q52 x1 x2 x3 x4 M = some z → wd_in cx_T D cy z0 ad u M X s H locs → lv_has ls 6 [(0, .ref (ad 0)), (1, .int x1), (2, .int x2), (3, .int x3), (4, .int x4)] → W p l e { frames := 8, cells := 2 * (z.2.2.2 - c0), slots := 52 * (z.2.2.2 - c0), locals := 238 } s m args below meth c H locs (2 * (M.2.2 - c0)) (52 * (M.2.2 - c0)) (MQ below (aq_i cx_T D cy z0 ad X z.1 z.2) args s (2 * (z.2.2.2 - c0)) (52 * (z.2.2.2 - c0)) (fun q => z0 ≤ q)) (F0 m 52 ls [])) (hm52 : ∀ (x1 : Int32) (x2 : Int32) (x3 : Int32) (x4 : Int32) (M : mm_M), q52 x1 x2 x3 x4 M = some z → M.2.2 ≤ z.2.2.2) (hf : f_X11_next_111 q52 x1 x2 x3 x4 M = some z) {H : Heap} {locs : List Loc} (hw : wd_in cx_T D cy z0 ad u M X s H locs) {ls : Array Slot} (hl : lv_has ls 6 [(0, .ref (ad 0)), (1, .int x1), (2, .int x2), (3, .int x3), (4, .int x4)]) : W p l e { frames := 8, cells := 2 * (z.2.2.2 - c0), slots := 52 * (z.2.2.2 - c0), locals := 238 } s m args below meth c H locs (2 * (M.2.2 - c0)) (52 * (M.2.2 - c0)) (MQ below (aq_i cx_T D cy z0 ad X z.1 z.2) args s (2 * (z.2.2.2 - c0)) (52 * (z.2.2.2 - c0)) (fun q => z0 ≤ q)) (F0 m 111 ls []) := by
  have hx := hC.1
  have hb := hC.2.1
  have hmz : M.2.2 ≤ z.2.2.2 := mo_X11_next_111 hm52 hf
  unfold f_X11_next_111 at hf
  obtain ⟨y13, ey13, hf⟩ := sq_e hf
  refine lv_iinc (v := y13) (lv' := [(4, .int y13), (0, .ref (ad 0)), (1, .int x1), (2, .int x2), (3, .int x3)]) hx hb dX11_next_111 hl (k := 4) rfl (by rw [ey13]; rfl) (by decide) rfl (fun ls hl => ?_)
  refine lv_goto (tgt := 52) hx hb dX11_next_114 (by decide) ?_
  refine W.widen (k := 2 * (M.2.2 - c0)) (n := 52 * (M.2.2 - c0)) (by omega) (by omega) ?_
  exact hq52 _ _ _ _ _ _ _ _ _ (by omega) hf hw (lv_sub hl [1, 2, 3, 4, 0] rfl)
set_option maxRecDepth 100000 in
set_option maxHeartbeats 4000000 in
theorem k_X11_next_105 {p : Program} {l : Launch} {e : Env} {s : State} {m : MethodId} {args : Array Value} {below : List Frame} {meth : Method} {c : Code} {D : va_G} {cy : Nat → ClassId} {z0 : Nat} {ad : Nat → Nat} {X : va_W} {u : Nat × Nat} (hC : cx_C p s m args meth c cX11_next "RhymedThen" (Cond.code yX11_next cX11_next 6 (some .int)) 6 (some .int)) {z : (Int32 × mm_M)} {c0 : Nat} {x1 : Int32} {x4 : Int32} {x5 : Int32} {M : mm_M} (hc0 : c0 ≤ M.2.2) {q52 : Int32 → Int32 → Int32 → Int32 → mm_M → Option (Int32 × mm_M)} (hq52 : ∀ (x1 : Int32) (x2 : Int32) (x3 : Int32) (x4 : Int32) (M : mm_M) (u : Nat × Nat) (H : Heap) (locs : List Loc) (ls : Array Slot), c0 ≤ M.2.2 → q52 x1 x2 x3 x4 M = some z → wd_in cx_T D cy z0 ad u M X s H locs → lv_has ls 6 [(0, .ref (ad 0)), (1, .int x1), (2, .int x2), (3, .int x3), (4, .int x4)] → W p l e { frames := 8, cells := 2 * (z.2.2.2 - c0), slots := 52 * (z.2.2.2 - c0), locals := 238 } s m args below meth c H locs (2 * (M.2.2 - c0)) (52 * (M.2.2 - c0)) (MQ below (aq_i cx_T D cy z0 ad X z.1 z.2) args s (2 * (z.2.2.2 - c0)) (52 * (z.2.2.2 - c0)) (fun q => z0 ≤ q)) (F0 m 52 ls [])) (hm52 : ∀ (x1 : Int32) (x2 : Int32) (x3 : Int32) (x4 : Int32) (M : mm_M), q52 x1 x2 x3 x4 M = some z → M.2.2 ≤ z.2.2.2) (hf : f_X11_next_105 q52 x1 x4 x5 M = some z) {H : Heap} {locs : List Loc} (hw : wd_in cx_T D cy z0 ad u M X s H locs) {ls : Array Slot} (hl : lv_has ls 6 [(0, .ref (ad 0)), (1, .int x1), (4, .int x4), (5, .int x5)]) : W p l e { frames := 8, cells := 2 * (z.2.2.2 - c0), slots := 52 * (z.2.2.2 - c0), locals := 238 } s m args below meth c H locs (2 * (M.2.2 - c0)) (52 * (M.2.2 - c0)) (MQ below (aq_i cx_T D cy z0 ad X z.1 z.2) args s (2 * (z.2.2.2 - c0)) (52 * (z.2.2.2 - c0)) (fun q => z0 ≤ q)) (F0 m 105 ls []) := by
  have hx := hC.1
  have hb := hC.2.1
  have hmz : M.2.2 ≤ z.2.2.2 := mo_X11_next_105 hm52 hf
  unfold f_X11_next_105 at hf
  refine lv_iload hx hb dX11_next_105 (lv_at hl 2 rfl) ?_
  refine lv_istore_n (lv' := [(2, .int x4), (0, .ref (ad 0)), (1, .int x1), (4, .int x4), (5, .int x5)]) hx hb dX11_next_107 rfl hl (by decide) rfl (fun ls hl => ?_)
  refine lv_iload hx hb dX11_next_108 (lv_at hl 4 rfl) ?_
  refine lv_istore_n (lv' := [(3, .int x5), (2, .int x4), (0, .ref (ad 0)), (1, .int x1), (4, .int x4), (5, .int x5)]) hx hb dX11_next_110 rfl hl (by decide) rfl (fun ls hl => ?_)
  refine W.widen (k := 2 * (M.2.2 - c0)) (n := 52 * (M.2.2 - c0)) (by omega) (by omega) ?_
  exact k_X11_next_111 hC (by omega) hq52 hm52 hf hw (lv_sub hl [2, 3, 1, 0, 4] rfl)
set_option maxRecDepth 100000 in
set_option maxHeartbeats 4000000 in
theorem k_X11_next_117 {p : Program} {l : Launch} {e : Env} {s : State} {m : MethodId} {args : Array Value} {below : List Frame} {meth : Method} {c : Code} {D : va_G} {cy : Nat → ClassId} {z0 : Nat} {ad : Nat → Nat} {X : va_W} {u : Nat × Nat} (hC : cx_C p s m args meth c cX11_next "RhymedThen" (Cond.code yX11_next cX11_next 6 (some .int)) 6 (some .int)) {z : (Int32 × mm_M)} {c0 : Nat} {x2 : Int32} {x3 : Int32} {M : mm_M} (hc0 : c0 ≤ M.2.2) (hf : f_X11_next_117 x2 x3 M = some z) {H : Heap} {locs : List Loc} (hw : wd_in cx_T D cy z0 ad u M X s H locs) {ls : Array Slot} (hl : lv_has ls 6 [(0, .ref (ad 0)), (2, .int x2), (3, .int x3)]) : W p l e { frames := 8, cells := 2 * (z.2.2.2 - c0), slots := 52 * (z.2.2.2 - c0), locals := 238 } s m args below meth c H locs (2 * (M.2.2 - c0)) (52 * (M.2.2 - c0)) (MQ below (aq_i cx_T D cy z0 ad X z.1 z.2) args s (2 * (z.2.2.2 - c0)) (52 * (z.2.2.2 - c0)) (fun q => z0 ≤ q)) (F0 m 117 ls []) := by
  have hx := hC.1
  have hb := hC.2.1
  have hmz : M.2.2 ≤ z.2.2.2 := mo_X11_next_117 hf
  unfold f_X11_next_117 at hf
  refine lv_aload_n hx hb dX11_next_117 rfl (lv_at hl 0 rfl) ?_
  refine rg_p hC hw 0 (Nat.le_of_ble_eq_true rfl) rfl fd_X11_1 wf_X11_19 (q := 3) rfl dX11_next_118 ?_
  obtain ⟨z11, ez11, hf⟩ := sq_e hf
  have mz11 : M.2.2 ≤ z11.2.2 := mo_X4_clear ez11.symm
  refine clc_Vv hC hw (c_X4_clear ez11.symm) hd_X4_clear cw_X11_192 (Nat.le_of_ble_eq_true rfl) rfl rfl (rest := []) hl.1 rfl (Nat.le_of_ble_eq_true rfl) ⟨Nat.le_of_ble_eq_true rfl, Nat.le_of_ble_eq_true rfl⟩ ⟨(show 2 * (M.2.2 - c0) ≤ 2 * (z.2.2.2 - c0) by omega), (show 52 * (M.2.2 - c0) ≤ 52 * (z.2.2.2 - c0) by omega)⟩ rfl dX11_next_121 (fun H locs hw => ?_)
  refine lv_aload_n hx hb dX11_next_124 rfl (lv_at hl 0 rfl) ?_
  refine rg_p hC hw 0 (Nat.le_of_ble_eq_true rfl) rfl fd_X11_1 wf_X11_19 (q := 3) rfl dX11_next_125 ?_
  refine lv_iload_n hx hb dX11_next_128 rfl (lv_at hl 2 rfl) ?_
  refine lv_i2l hx hb dX11_next_129 rfl ?_
  obtain ⟨z12, ez12, hf⟩ := bd_e hf
  have mz12 : z11.2.2 ≤ z12.2.2 := mo_X4_add ez12
  refine clc_Vv hC hw (c_X4_add ez12) hd_X4_add cw_X11_214 (Nat.le_of_ble_eq_true rfl) rfl rfl (rest := []) hl.1 rfl (Nat.le_of_ble_eq_true rfl) ⟨Nat.le_of_ble_eq_true rfl, Nat.le_of_ble_eq_true rfl⟩ ⟨(show 2 * (M.2.2 - c0) ≤ 2 * (z.2.2.2 - c0) by omega), (show 52 * (M.2.2 - c0) ≤ 52 * (z.2.2.2 - c0) by omega)⟩ rfl dX11_next_130 (fun H locs hw => ?_)
  refine lv_iload_n hx hb dX11_next_133 rfl (lv_at hl 1 rfl) ?_
  refine W.widen (k := 2 * (z.2.2.2 - c0)) (n := 52 * (z.2.2.2 - c0)) (by omega) (by omega) ?_
  have hz := Option.some.inj hf
  subst hz
  exact rta_i hC hw dX11_next_134
set_option maxRecDepth 100000 in
set_option maxHeartbeats 4000000 in
theorem k_X11_next_52 {p : Program} {l : Launch} {e : Env} {s : State} {m : MethodId} {args : Array Value} {below : List Frame} {meth : Method} {c : Code} {D : va_G} {cy : Nat → ClassId} {z0 : Nat} {ad : Nat → Nat} {X : va_W} {u : Nat × Nat} (hC : cx_C p s m args meth c cX11_next "RhymedThen" (Cond.code yX11_next cX11_next 6 (some .int)) 6 (some .int)) {z : (Int32 × mm_M)} {c0 : Nat} {x1 : Int32} {x2 : Int32} {x3 : Int32} {x4 : Int32} {M : mm_M} (hc0 : c0 ≤ M.2.2) {q52 : Int32 → Int32 → Int32 → Int32 → mm_M → Option (Int32 × mm_M)} (hq52 : ∀ (x1 : Int32) (x2 : Int32) (x3 : Int32) (x4 : Int32) (M : mm_M) (u : Nat × Nat) (H : Heap) (locs : List Loc) (ls : Array Slot), c0 ≤ M.2.2 → q52 x1 x2 x3 x4 M = some z → wd_in cx_T D cy z0 ad u M X s H locs → lv_has ls 6 [(0, .ref (ad 0)), (1, .int x1), (2, .int x2), (3, .int x3), (4, .int x4)] → W p l e { frames := 8, cells := 2 * (z.2.2.2 - c0), slots := 52 * (z.2.2.2 - c0), locals := 238 } s m args below meth c H locs (2 * (M.2.2 - c0)) (52 * (M.2.2 - c0)) (MQ below (aq_i cx_T D cy z0 ad X z.1 z.2) args s (2 * (z.2.2.2 - c0)) (52 * (z.2.2.2 - c0)) (fun q => z0 ≤ q)) (F0 m 52 ls [])) (hm52 : ∀ (x1 : Int32) (x2 : Int32) (x3 : Int32) (x4 : Int32) (M : mm_M), q52 x1 x2 x3 x4 M = some z → M.2.2 ≤ z.2.2.2) (hf : f_X11_next_52 q52 x1 x2 x3 x4 M = some z) {H : Heap} {locs : List Loc} (hw : wd_in cx_T D cy z0 ad u M X s H locs) {ls : Array Slot} (hl : lv_has ls 6 [(0, .ref (ad 0)), (1, .int x1), (2, .int x2), (3, .int x3), (4, .int x4)]) : W p l e { frames := 8, cells := 2 * (z.2.2.2 - c0), slots := 52 * (z.2.2.2 - c0), locals := 238 } s m args below meth c H locs (2 * (M.2.2 - c0)) (52 * (M.2.2 - c0)) (MQ below (aq_i cx_T D cy z0 ad X z.1 z.2) args s (2 * (z.2.2.2 - c0)) (52 * (z.2.2.2 - c0)) (fun q => z0 ≤ q)) (F0 m 52 ls []) := by
  have hx := hC.1
  have hb := hC.2.1
  have hmz : M.2.2 ≤ z.2.2.2 := mo_X11_next_52 hm52 hf
  unfold f_X11_next_52 at hf
  refine lv_iload hx hb dX11_next_52 (lv_at hl 4 rfl) ?_
  refine lv_aload_n hx hb dX11_next_54 rfl (lv_at hl 0 rfl) ?_
  refine rg_p hC hw 0 (Nat.le_of_ble_eq_true rfl) rfl fd_X11_4 wf_X11_44 (q := 19) rfl dX11_next_55 ?_
  refine rg_i hC hw 19 (Nat.le_of_ble_eq_true rfl) rfl fd_X6_3 wf_X11_251 dX11_next_58 ?_
  refine lv_icmp_ge (tgt := 117) hx hb dX11_next_61 (by decide) (fun c5 => ?_) (fun c5 => ?_)
  · rw [if_pos c5] at hf
    refine W.widen (k := 2 * (M.2.2 - c0)) (n := 52 * (M.2.2 - c0)) (by omega) (by omega) ?_
    exact k_X11_next_117 hC (by omega) hf hw (lv_sub hl [0, 2, 3] rfl)
  · rw [if_neg c5] at hf
    refine lv_aload_n hx hb dX11_next_64 rfl (lv_at hl 0 rfl) ?_
    refine rg_p hC hw 0 (Nat.le_of_ble_eq_true rfl) rfl fd_X11_4 wf_X11_44 (q := 19) rfl dX11_next_65 ?_
    refine rg_i hC hw 19 (Nat.le_of_ble_eq_true rfl) rfl fd_X6_4 wf_X11_283 dX11_next_68 ?_
    refine lv_iload hx hb dX11_next_71 (lv_at hl 4 rfl) ?_
    refine lv_ishr hx hb dX11_next_73 ?_
    refine lv_iconst (v := 1) hx hb dX11_next_74 (by decide) ?_
    refine lv_iand hx hb dX11_next_75 ?_
    refine lv_if_ne (tgt := 111) hx hb dX11_next_76 (by decide) (fun c6 => ?_) (fun c6 => ?_)
    · rw [if_neg c6] at hf
      refine W.widen (k := 2 * (M.2.2 - c0)) (n := 52 * (M.2.2 - c0)) (by omega) (by omega) ?_
      exact k_X11_next_111 hC (by omega) hq52 hm52 hf hw (lv_sub hl [0, 1, 2, 3, 4] rfl)
    · rw [if_pos c6] at hf
      refine lv_aload_n hx hb dX11_next_79 rfl (lv_at hl 0 rfl) ?_
      refine rg_p hC hw 0 (Nat.le_of_ble_eq_true rfl) rfl fd_X11_4 wf_X11_44 (q := 19) rfl dX11_next_80 ?_
      refine lv_iload hx hb dX11_next_83 (lv_at hl 4 rfl) ?_
      obtain ⟨z7, ez7, hf⟩ := bd_e hf
      refine clc_Vi hC hw (c_X6_fitCountHolding ez7) hd_X6_fitCountHolding cw_X11_361 (Nat.le_of_ble_eq_true rfl) rfl rfl (rest := []) hl.1 rfl (Nat.le_of_ble_eq_true rfl) ⟨Nat.le_of_ble_eq_true rfl, Nat.le_of_ble_eq_true rfl⟩ ⟨(show 2 * (M.2.2 - c0) ≤ 2 * (z.2.2.2 - c0) by omega), (show 52 * (M.2.2 - c0) ≤ 52 * (z.2.2.2 - c0) by omega)⟩ rfl dX11_next_85 (fun H locs hw => ?_)
      refine lv_istore (lv' := [(5, .int z7), (0, .ref (ad 0)), (1, .int x1), (2, .int x2), (3, .int x3), (4, .int x4)]) hx hb dX11_next_88 hl (by decide) rfl (fun ls hl => ?_)
      refine lv_iload_n hx hb dX11_next_90 rfl (lv_at hl 3 rfl) ?_
      refine lv_iconst (v := (-1)) hx hb dX11_next_91 (by decide) ?_
      refine lv_icmp_eq (tgt := 105) hx hb dX11_next_92 (by decide) (fun c8 => ?_) (fun c8 => ?_)
      · rw [if_pos c8] at hf
        refine W.widen (k := 2 * (M.2.2 - c0)) (n := 52 * (M.2.2 - c0)) (by omega) (by omega) ?_
        exact k_X11_next_105 hC (by omega) hq52 hm52 hf hw (lv_sub hl [1, 2, 5, 0] rfl)
      · rw [if_neg c8] at hf
        refine lv_iload hx hb dX11_next_95 (lv_at hl 0 rfl) ?_
        refine lv_iload_n hx hb dX11_next_97 rfl (lv_at hl 4 rfl) ?_
        refine lv_iload_n hx hb dX11_next_98 rfl (lv_at hl 2 rfl) ?_
        obtain ⟨z9, ez9, hf⟩ := sq_e hf
        refine clc_Si hC hw (c_X11_isMoreEven ez9.symm) hd_X11_isMoreEven cw_X11_364 (rest := []) hl.1 rfl (Nat.le_of_ble_eq_true rfl) ⟨Nat.le_of_ble_eq_true rfl, Nat.le_of_ble_eq_true rfl⟩ ⟨(show 2 * (M.2.2 - c0) ≤ 2 * (z.2.2.2 - c0) by omega), (show 52 * (M.2.2 - c0) ≤ 52 * (z.2.2.2 - c0) by omega)⟩ rfl dX11_next_99 (fun H locs hw => ?_)
        refine lv_if_eq (tgt := 111) hx hb dX11_next_102 (by decide) (fun c10 => ?_) (fun c10 => ?_)
        · rw [if_pos c10] at hf
          refine W.widen (k := 2 * (M.2.2 - c0)) (n := 52 * (M.2.2 - c0)) (by omega) (by omega) ?_
          exact k_X11_next_111 hC (by omega) hq52 hm52 hf hw (lv_sub hl [1, 2, 3, 4, 5] rfl)
        · rw [if_neg c10] at hf
          refine W.widen (k := 2 * (M.2.2 - c0)) (n := 52 * (M.2.2 - c0)) (by omega) (by omega) ?_
          exact k_X11_next_105 hC (by omega) hq52 hm52 hf hw (lv_sub hl [1, 2, 5, 0] rfl)
set_option maxRecDepth 100000 in
set_option maxHeartbeats 4000000 in
theorem k_X11_next_52l {p : Program} {l : Launch} {e : Env} {s : State} {m : MethodId} {args : Array Value} {below : List Frame} {meth : Method} {c : Code} {D : va_G} {cy : Nat → ClassId} {z0 : Nat} {ad : Nat → Nat} {X : va_W} (hC : cx_C p s m args meth c cX11_next "RhymedThen" (Cond.code yX11_next cX11_next 6 (some .int)) 6 (some .int)) {z : (Int32 × mm_M)} {c0 : Nat} : ∀ (n : Nat) (x1 : Int32) (x2 : Int32) (x3 : Int32) (x4 : Int32) (M : mm_M) (u : Nat × Nat) (H : Heap) (locs : List Loc) (ls : Array Slot), c0 ≤ M.2.2 → f_X11_next_52l n x1 x2 x3 x4 M = some z → wd_in cx_T D cy z0 ad u M X s H locs → lv_has ls 6 [(0, .ref (ad 0)), (1, .int x1), (2, .int x2), (3, .int x3), (4, .int x4)] → W p l e { frames := 8, cells := 2 * (z.2.2.2 - c0), slots := 52 * (z.2.2.2 - c0), locals := 238 } s m args below meth c H locs (2 * (M.2.2 - c0)) (52 * (M.2.2 - c0)) (MQ below (aq_i cx_T D cy z0 ad X z.1 z.2) args s (2 * (z.2.2.2 - c0)) (52 * (z.2.2.2 - c0)) (fun q => z0 ≤ q)) (F0 m 52 ls []) := by
  intro n
  induction n with
  | zero => intro x1 x2 x3 x4 M u H locs ls hc0 hf; exact absurd hf (by simp [f_X11_next_52l])
  | succ n ih => intro x1 x2 x3 x4 M u H locs ls hc0 hf hw hl; exact k_X11_next_52 hC hc0 ih (mo_X11_next_52l n) hf hw hl
set_option maxRecDepth 100000 in
set_option maxHeartbeats 4000000 in
theorem k_X11_next_30 {p : Program} {l : Launch} {e : Env} {s : State} {m : MethodId} {args : Array Value} {below : List Frame} {meth : Method} {c : Code} {D : va_G} {cy : Nat → ClassId} {z0 : Nat} {ad : Nat → Nat} {X : va_W} {u : Nat × Nat} (hC : cx_C p s m args meth c cX11_next "RhymedThen" (Cond.code yX11_next cX11_next 6 (some .int)) 6 (some .int)) {z : (Int32 × mm_M)} {c0 : Nat} {M : mm_M} (hc0 : c0 ≤ M.2.2) (hf : f_X11_next_30 M = some z) {H : Heap} {locs : List Loc} (hw : wd_in cx_T D cy z0 ad u M X s H locs) {ls : Array Slot} (hl : lv_has ls 6 [(0, .ref (ad 0))]) : W p l e { frames := 8, cells := 2 * (z.2.2.2 - c0), slots := 52 * (z.2.2.2 - c0), locals := 238 } s m args below meth c H locs (2 * (M.2.2 - c0)) (52 * (M.2.2 - c0)) (MQ below (aq_i cx_T D cy z0 ad X z.1 z.2) args s (2 * (z.2.2.2 - c0)) (52 * (z.2.2.2 - c0)) (fun q => z0 ≤ q)) (F0 m 30 ls []) := by
  have hx := hC.1
  have hb := hC.2.1
  have hmz : M.2.2 ≤ z.2.2.2 := mo_X11_next_30 hf
  unfold f_X11_next_30 at hf
  refine lv_aload_n hx hb dX11_next_30 rfl (lv_at hl 0 rfl) ?_
  refine rg_p hC hw 0 (Nat.le_of_ble_eq_true rfl) rfl fd_X11_4 wf_X11_44 (q := 19) rfl dX11_next_31 ?_
  obtain ⟨z3, ez3, hf⟩ := bd_e hf
  refine clc_Vi hC hw (c_X6_fitCount ez3) hd_X6_fitCount cw_X11_358 (Nat.le_of_ble_eq_true rfl) rfl rfl (rest := []) hl.1 rfl (Nat.le_of_ble_eq_true rfl) ⟨Nat.le_of_ble_eq_true rfl, Nat.le_of_ble_eq_true rfl⟩ ⟨(show 2 * (M.2.2 - c0) ≤ 2 * (z.2.2.2 - c0) by omega), (show 52 * (M.2.2 - c0) ≤ 52 * (z.2.2.2 - c0) by omega)⟩ rfl dX11_next_34 (fun H locs hw => ?_)
  refine lv_istore_n (lv' := [(1, .int z3), (0, .ref (ad 0))]) hx hb dX11_next_37 rfl hl (by decide) rfl (fun ls hl => ?_)
  refine lv_iload_n hx hb dX11_next_38 rfl (lv_at hl 0 rfl) ?_
  refine lv_if_ne (tgt := 45) hx hb dX11_next_39 (by decide) (fun c4 => ?_) (fun c4 => ?_)
  · rw [if_neg c4] at hf
    refine lv_iconst (v := (-1)) hx hb dX11_next_45 (by decide) ?_
    refine lv_istore_n (lv' := [(2, .int (-1)), (1, .int z3), (0, .ref (ad 0))]) hx hb dX11_next_46 rfl hl (by decide) rfl (fun ls hl => ?_)
    refine lv_iconst (v := 0) hx hb dX11_next_47 (by decide) ?_
    refine lv_istore_n (lv' := [(3, .int 0), (2, .int (-1)), (1, .int z3), (0, .ref (ad 0))]) hx hb dX11_next_48 rfl hl (by decide) rfl (fun ls hl => ?_)
    refine lv_iconst (v := 0) hx hb dX11_next_49 (by decide) ?_
    refine lv_istore (lv' := [(4, .int 0), (3, .int 0), (2, .int (-1)), (1, .int z3), (0, .ref (ad 0))]) hx hb dX11_next_50 hl (by decide) rfl (fun ls hl => ?_)
    refine W.widen (k := 2 * (M.2.2 - c0)) (n := 52 * (M.2.2 - c0)) (by omega) (by omega) ?_
    exact k_X11_next_52l hC fu_ _ _ _ _ _ _ _ _ _ (by omega) hf hw (lv_sub hl [4, 3, 2, 1, 0] rfl)
  · rw [if_pos c4] at hf
    refine lv_bipush (v := (-2)) hx hb dX11_next_42 (by decide) ?_
    refine W.widen (k := 2 * (z.2.2.2 - c0)) (n := 52 * (z.2.2.2 - c0)) (by omega) (by omega) ?_
    have hz := Option.some.inj hf
    subst hz
    exact rta_i hC hw dX11_next_44
set_option maxRecDepth 100000 in
set_option maxHeartbeats 4000000 in
theorem k_X11_next {p : Program} {l : Launch} {e : Env} {s : State} {m : MethodId} {args : Array Value} {below : List Frame} {meth : Method} {c : Code} {D : va_G} {cy : Nat → ClassId} {z0 : Nat} {ad : Nat → Nat} {X : va_W} {u : Nat × Nat} (hC : cx_C p s m args meth c cX11_next "RhymedThen" (Cond.code yX11_next cX11_next 6 (some .int)) 6 (some .int)) {z : (Int32 × mm_M)} {c0 : Nat} {M : mm_M} (hc0 : c0 ≤ M.2.2) (hf : f_X11_next M = some z) {H : Heap} {locs : List Loc} (hw : wd_in cx_T D cy z0 ad u M X s H locs) {ls : Array Slot} (hl : lv_has ls 6 [(0, .ref (ad 0))]) : W p l e { frames := 8, cells := 2 * (z.2.2.2 - c0), slots := 52 * (z.2.2.2 - c0), locals := 238 } s m args below meth c H locs (2 * (M.2.2 - c0)) (52 * (M.2.2 - c0)) (MQ below (aq_i cx_T D cy z0 ad X z.1 z.2) args s (2 * (z.2.2.2 - c0)) (52 * (z.2.2.2 - c0)) (fun q => z0 ≤ q)) (F0 m 0 ls []) := by
  have hx := hC.1
  have hb := hC.2.1
  have hmz : M.2.2 ≤ z.2.2.2 := mo_X11_next hf
  unfold f_X11_next at hf
  refine lv_aload_n hx hb dX11_next_0 rfl (lv_at hl 0 rfl) ?_
  refine rg_p hC hw 0 (Nat.le_of_ble_eq_true rfl) rfl fd_X11_4 wf_X11_44 (q := 19) rfl dX11_next_1 ?_
  refine rg_i hC hw 19 (Nat.le_of_ble_eq_true rfl) rfl fd_X6_4 wf_X11_283 dX11_next_4 ?_
  refine lv_iconst (v := 1) hx hb dX11_next_7 (by decide) ?_
  refine lv_aload_n hx hb dX11_next_8 rfl (lv_at hl 0 rfl) ?_
  refine rg_p hC hw 0 (Nat.le_of_ble_eq_true rfl) rfl fd_X11_4 wf_X11_44 (q := 19) rfl dX11_next_9 ?_
  refine rg_i hC hw 19 (Nat.le_of_ble_eq_true rfl) rfl fd_X6_3 wf_X11_251 dX11_next_12 ?_
  refine lv_ishl hx hb dX11_next_15 ?_
  refine lv_iconst (v := 1) hx hb dX11_next_16 (by decide) ?_
  refine lv_isub hx hb dX11_next_17 ?_
  refine lv_icmp_ne (tgt := 23) hx hb dX11_next_18 (by decide) (fun c1 => ?_) (fun c1 => ?_)
  · rw [if_neg c1] at hf
    refine lv_aload_n hx hb dX11_next_23 rfl (lv_at hl 0 rfl) ?_
    refine rg_p hC hw 0 (Nat.le_of_ble_eq_true rfl) rfl fd_X11_4 wf_X11_44 (q := 19) rfl dX11_next_24 ?_
    obtain ⟨z2, ez2, hf⟩ := bd_e hf
    have mz2 : M.2.2 ≤ z2.2.2 := mo_X6_lookAnew ez2
    have hnz : z2.2.2 ≤ z.2.2.2 := mo_X11_next_30 hf
    refine cla_Vv hC hw (c_X6_lookAnew ez2) hd_X6_lookAnew cw_X11_286 (Nat.le_of_ble_eq_true rfl) rfl rfl (rest := []) hl.1 rfl (Nat.le_of_ble_eq_true rfl) ⟨Nat.le_of_ble_eq_true rfl, Nat.le_of_ble_eq_true rfl⟩ ⟨(show 2 * (M.2.2 - c0) + 2 * (z2.2.2 - M.2.2) ≤ 2 * (z.2.2.2 - c0) by omega), (show 52 * (M.2.2 - c0) + 52 * (z2.2.2 - M.2.2) ≤ 52 * (z.2.2.2 - c0) by omega)⟩ rfl dX11_next_27 (fun u H locs hw => ?_)
    refine W.widen (k := 2 * (z2.2.2 - c0)) (n := 52 * (z2.2.2 - c0)) (by omega) (by omega) ?_
    exact k_X11_next_30 hC (by omega) hf hw (lv_sub hl [0] rfl)
  · rw [if_pos c1] at hf
    refine lv_iconst (v := (-1)) hx hb dX11_next_21 (by decide) ?_
    refine W.widen (k := 2 * (z.2.2.2 - c0)) (n := 52 * (z.2.2.2 - c0)) (by omega) (by omega) ?_
    have hz := Option.some.inj hf
    subst hz
    exact rta_i hC hw dX11_next_22
set_option maxRecDepth 100000 in
theorem c_X11_next {l : Launch} {D : va_G} {cy : Nat → ClassId} {z0 : Nat} {ad : Nat → Nat} {u : Nat × Nat} {X : va_W} {z : (Int32 × mm_M)} {M : mm_M} (hf : f_X11_next M = some z) : ca_i cx_T l yX11_next (Cond.code yX11_next cX11_next 6 (some .int)) 8 238 D cy z0 ad u M X [.ref (ad 0)] z.1 z.2 := by
  refine bga_i (by decide) (fun p e s m below meth c hC hw => ?_)
  refine en_t (Nat.le_of_ble_eq_true rfl) (fun ls hl => ?_)
  have hl : lv_has ls 6 [(0, .ref (ad 0))] := hl
  refine W.widen (k := 2 * (M.2.2 - M.2.2)) (n := 52 * (M.2.2 - M.2.2)) (by omega) (by omega) ?_
  exact k_X11_next hC (Nat.le_refl _) hf hw hl
set_option maxRecDepth 100000 in
set_option maxHeartbeats 4000000 in
theorem k_X6_rhymesOf_45 {p : Program} {l : Launch} {e : Env} {s : State} {m : MethodId} {args : Array Value} {below : List Frame} {meth : Method} {c : Code} {D : va_G} {cy : Nat → ClassId} {z0 : Nat} {ad : Nat → Nat} {X : va_W} {u : Nat × Nat} (hC : cx_C p s m args meth c cX6_rhymesOf "RhymedThen$Signs" (Cond.code yX6_rhymesOf cX6_rhymesOf 4 (some .int)) 4 (some .int)) {z : Int32} {x1 : Int32} {x3 : Int32} {t0 : Int32} {t1 : Int32} {M : mm_M} {q4 : Int32 → Int32 → Int32 → Option Int32} (hq4 : ∀ (x1 : Int32) (x2 : Int32) (x3 : Int32) (H : Heap) (locs : List Loc) (ls : Array Slot), q4 x1 x2 x3 = some z → wd_in cx_T D cy z0 ad u M X s H locs → lv_has ls 4 [(0, .ref (ad 19)), (1, .int x1), (2, .int x2), (3, .int x3)] → W p l e { frames := 0, cells := 0, slots := 0, locals := 0 } s m args below meth c H locs 0 0 (MQ below (cq_i cx_T D cy z0 ad u X z M) args s 0 0 (fun q => z0 ≤ q)) (F0 m 4 ls [])) (hf : f_X6_rhymesOf_45 q4 x1 x3 t0 t1 M = some z) {H : Heap} {locs : List Loc} (hw : wd_in cx_T D cy z0 ad u M X s H locs) {ls : Array Slot} (hl : lv_has ls 4 [(0, .ref (ad 19)), (1, .int x1), (3, .int x3)]) : W p l e { frames := 0, cells := 0, slots := 0, locals := 0 } s m args below meth c H locs 0 0 (MQ below (cq_i cx_T D cy z0 ad u X z M) args s 0 0 (fun q => z0 ≤ q)) (F0 m 45 ls [.int t1, .int t0]) := by
  have hx := hC.1
  have hb := hC.2.1
  unfold f_X6_rhymesOf_45 at hf
  refine lv_ior hx hb dX6_rhymesOf_45 ?_
  obtain ⟨y6, ey6, hf⟩ := sq_e hf
  refine lt_i ey6 ?_
  refine lv_istore_n (lv' := [(2, .int y6), (0, .ref (ad 19)), (1, .int x1), (3, .int x3)]) hx hb dX6_rhymesOf_46 rfl hl (by decide) rfl (fun ls hl => ?_)
  obtain ⟨y7, ey7, hf⟩ := sq_e hf
  refine lv_iinc (v := y7) (lv' := [(3, .int y7), (2, .int y6), (0, .ref (ad 19)), (1, .int x1)]) hx hb dX6_rhymesOf_47 hl (k := 3) rfl (by rw [ey7]; rfl) (by decide) rfl (fun ls hl => ?_)
  refine lv_goto (tgt := 4) hx hb dX6_rhymesOf_50 (by decide) ?_
  exact hq4 _ _ _ _ _ _ hf hw (lv_sub hl [2, 3, 1, 0] rfl)
set_option maxRecDepth 100000 in
set_option maxHeartbeats 4000000 in
theorem k_X6_rhymesOf_44 {p : Program} {l : Launch} {e : Env} {s : State} {m : MethodId} {args : Array Value} {below : List Frame} {meth : Method} {c : Code} {D : va_G} {cy : Nat → ClassId} {z0 : Nat} {ad : Nat → Nat} {X : va_W} {u : Nat × Nat} (hC : cx_C p s m args meth c cX6_rhymesOf "RhymedThen$Signs" (Cond.code yX6_rhymesOf cX6_rhymesOf 4 (some .int)) 4 (some .int)) {z : Int32} {x1 : Int32} {x3 : Int32} {t0 : Int32} {M : mm_M} {q4 : Int32 → Int32 → Int32 → Option Int32} (hq4 : ∀ (x1 : Int32) (x2 : Int32) (x3 : Int32) (H : Heap) (locs : List Loc) (ls : Array Slot), q4 x1 x2 x3 = some z → wd_in cx_T D cy z0 ad u M X s H locs → lv_has ls 4 [(0, .ref (ad 19)), (1, .int x1), (2, .int x2), (3, .int x3)] → W p l e { frames := 0, cells := 0, slots := 0, locals := 0 } s m args below meth c H locs 0 0 (MQ below (cq_i cx_T D cy z0 ad u X z M) args s 0 0 (fun q => z0 ≤ q)) (F0 m 4 ls [])) (hf : f_X6_rhymesOf_44 q4 x1 x3 t0 M = some z) {H : Heap} {locs : List Loc} (hw : wd_in cx_T D cy z0 ad u M X s H locs) {ls : Array Slot} (hl : lv_has ls 4 [(0, .ref (ad 19)), (1, .int x1), (3, .int x3)]) : W p l e { frames := 0, cells := 0, slots := 0, locals := 0 } s m args below meth c H locs 0 0 (MQ below (cq_i cx_T D cy z0 ad u X z M) args s 0 0 (fun q => z0 ≤ q)) (F0 m 44 ls [.int t0]) := by
  have hx := hC.1
  have hb := hC.2.1
  unfold f_X6_rhymesOf_44 at hf
  refine lv_iconst (v := 0) hx hb dX6_rhymesOf_44 (by decide) ?_
  exact k_X6_rhymesOf_45 hC hq4 hf hw (lv_sub hl [0, 1, 2] rfl)
set_option maxRecDepth 100000 in
set_option maxHeartbeats 4000000 in
theorem k_X6_rhymesOf_4 {p : Program} {l : Launch} {e : Env} {s : State} {m : MethodId} {args : Array Value} {below : List Frame} {meth : Method} {c : Code} {D : va_G} {cy : Nat → ClassId} {z0 : Nat} {ad : Nat → Nat} {X : va_W} {u : Nat × Nat} (hC : cx_C p s m args meth c cX6_rhymesOf "RhymedThen$Signs" (Cond.code yX6_rhymesOf cX6_rhymesOf 4 (some .int)) 4 (some .int)) {z : Int32} {x1 : Int32} {x2 : Int32} {x3 : Int32} {M : mm_M} {q4 : Int32 → Int32 → Int32 → Option Int32} (hq4 : ∀ (x1 : Int32) (x2 : Int32) (x3 : Int32) (H : Heap) (locs : List Loc) (ls : Array Slot), q4 x1 x2 x3 = some z → wd_in cx_T D cy z0 ad u M X s H locs → lv_has ls 4 [(0, .ref (ad 19)), (1, .int x1), (2, .int x2), (3, .int x3)] → W p l e { frames := 0, cells := 0, slots := 0, locals := 0 } s m args below meth c H locs 0 0 (MQ below (cq_i cx_T D cy z0 ad u X z M) args s 0 0 (fun q => z0 ≤ q)) (F0 m 4 ls [])) (hf : f_X6_rhymesOf_4 q4 x1 x2 x3 M = some z) {H : Heap} {locs : List Loc} (hw : wd_in cx_T D cy z0 ad u M X s H locs) {ls : Array Slot} (hl : lv_has ls 4 [(0, .ref (ad 19)), (1, .int x1), (2, .int x2), (3, .int x3)]) : W p l e { frames := 0, cells := 0, slots := 0, locals := 0 } s m args below meth c H locs 0 0 (MQ below (cq_i cx_T D cy z0 ad u X z M) args s 0 0 (fun q => z0 ≤ q)) (F0 m 4 ls []) := by
  have hx := hC.1
  have hb := hC.2.1
  unfold f_X6_rhymesOf_4 at hf
  refine lv_iload_n hx hb dX6_rhymesOf_4 rfl (lv_at hl 3 rfl) ?_
  refine lv_aload_n hx hb dX6_rhymesOf_5 rfl (lv_at hl 0 rfl) ?_
  refine rg_i hC hw 19 (Nat.le_of_ble_eq_true rfl) rfl fd_X6_3 wf_X6_17 dX6_rhymesOf_6 ?_
  refine lv_icmp_ge (tgt := 53) hx hb dX6_rhymesOf_9 (by decide) (fun c1 => ?_) (fun c1 => ?_)
  · rw [if_pos c1] at hf
    refine lv_iload_n hx hb dX6_rhymesOf_53 rfl (lv_at hl 2 rfl) ?_
    have hz := Option.some.inj hf
    subst hz
    exact rtc_i hC hw dX6_rhymesOf_54
  · rw [if_neg c1] at hf
    refine lv_iload_n hx hb dX6_rhymesOf_12 rfl (lv_at hl 2 rfl) ?_
    refine lv_aload_n hx hb dX6_rhymesOf_13 rfl (lv_at hl 0 rfl) ?_
    refine rg_p hC hw 19 (Nat.le_of_ble_eq_true rfl) rfl fd_X6_2 wf_X6_11 (q := 20) rfl dX6_rhymesOf_14 ?_
    refine lv_iload_n hx hb dX6_rhymesOf_17 rfl (lv_at hl 3 rfl) ?_
    obtain ⟨h2, hf⟩ := ck_e hf
    refine ra_S hC hw 20 (Nat.le_of_ble_eq_true rfl) rfl h2 dX6_rhymesOf_18 ?_
    refine rg_i hC hw (22 + x3.toNatClampNeg) (sg_lt (sg_ix h2)) (sg_kd (sg_ix h2)) fd_X5_0 wf_X6_84 dX6_rhymesOf_19 ?_
    refine lv_if_ne (tgt := 44) hx hb dX6_rhymesOf_22 (by decide) (fun c3 => ?_) (fun c3 => ?_)
    · rw [if_neg c3] at hf
      exact k_X6_rhymesOf_44 hC hq4 hf hw (lv_sub hl [0, 1, 3] rfl)
    · rw [if_pos c3] at hf
      refine lv_aload_n hx hb dX6_rhymesOf_25 rfl (lv_at hl 0 rfl) ?_
      refine rg_p hC hw 19 (Nat.le_of_ble_eq_true rfl) rfl fd_X6_2 wf_X6_11 (q := 20) rfl dX6_rhymesOf_26 ?_
      refine lv_iload_n hx hb dX6_rhymesOf_29 rfl (lv_at hl 3 rfl) ?_
      obtain ⟨h4, hf⟩ := ck_e hf
      refine ra_S hC hw 20 (Nat.le_of_ble_eq_true rfl) rfl h4 dX6_rhymesOf_30 ?_
      refine rg_i hC hw (22 + x3.toNatClampNeg) (sg_lt (sg_ix h4)) (sg_kd (sg_ix h4)) fd_X5_6 wf_X6_87 dX6_rhymesOf_31 ?_
      refine lv_iload_n hx hb dX6_rhymesOf_34 rfl (lv_at hl 1 rfl) ?_
      refine lv_icmp_ne (tgt := 44) hx hb dX6_rhymesOf_35 (by decide) (fun c5 => ?_) (fun c5 => ?_)
      · rw [if_neg c5] at hf
        exact k_X6_rhymesOf_44 hC hq4 hf hw (lv_sub hl [0, 1, 3] rfl)
      · rw [if_pos c5] at hf
        refine lv_iconst (v := 1) hx hb dX6_rhymesOf_38 (by decide) ?_
        refine lv_iload_n hx hb dX6_rhymesOf_39 rfl (lv_at hl 3 rfl) ?_
        refine lv_ishl hx hb dX6_rhymesOf_40 ?_
        refine lv_goto (tgt := 45) hx hb dX6_rhymesOf_41 (by decide) ?_
        exact k_X6_rhymesOf_45 hC hq4 hf hw (lv_sub hl [0, 1, 3] rfl)
set_option maxRecDepth 100000 in
set_option maxHeartbeats 4000000 in
theorem k_X6_rhymesOf_4l {p : Program} {l : Launch} {e : Env} {s : State} {m : MethodId} {args : Array Value} {below : List Frame} {meth : Method} {c : Code} {D : va_G} {cy : Nat → ClassId} {z0 : Nat} {ad : Nat → Nat} {X : va_W} {u : Nat × Nat} (hC : cx_C p s m args meth c cX6_rhymesOf "RhymedThen$Signs" (Cond.code yX6_rhymesOf cX6_rhymesOf 4 (some .int)) 4 (some .int)) {z : Int32} {M : mm_M} : ∀ (n : Nat) (x1 : Int32) (x2 : Int32) (x3 : Int32) (H : Heap) (locs : List Loc) (ls : Array Slot), f_X6_rhymesOf_4l M n x1 x2 x3 = some z → wd_in cx_T D cy z0 ad u M X s H locs → lv_has ls 4 [(0, .ref (ad 19)), (1, .int x1), (2, .int x2), (3, .int x3)] → W p l e { frames := 0, cells := 0, slots := 0, locals := 0 } s m args below meth c H locs 0 0 (MQ below (cq_i cx_T D cy z0 ad u X z M) args s 0 0 (fun q => z0 ≤ q)) (F0 m 4 ls []) := by
  intro n
  induction n with
  | zero => intro x1 x2 x3 H locs ls hf; exact absurd hf (by simp [f_X6_rhymesOf_4l])
  | succ n ih => intro x1 x2 x3 H locs ls hf hw hl; exact k_X6_rhymesOf_4 hC ih hf hw hl
set_option maxRecDepth 100000 in
set_option maxHeartbeats 4000000 in
theorem k_X6_rhymesOf {p : Program} {l : Launch} {e : Env} {s : State} {m : MethodId} {args : Array Value} {below : List Frame} {meth : Method} {c : Code} {D : va_G} {cy : Nat → ClassId} {z0 : Nat} {ad : Nat → Nat} {X : va_W} {u : Nat × Nat} (hC : cx_C p s m args meth c cX6_rhymesOf "RhymedThen$Signs" (Cond.code yX6_rhymesOf cX6_rhymesOf 4 (some .int)) 4 (some .int)) {z : Int32} {x1 : Int32} {M : mm_M} (hf : f_X6_rhymesOf x1 M = some z) {H : Heap} {locs : List Loc} (hw : wd_in cx_T D cy z0 ad u M X s H locs) {ls : Array Slot} (hl : lv_has ls 4 [(0, .ref (ad 19)), (1, .int x1)]) : W p l e { frames := 0, cells := 0, slots := 0, locals := 0 } s m args below meth c H locs 0 0 (MQ below (cq_i cx_T D cy z0 ad u X z M) args s 0 0 (fun q => z0 ≤ q)) (F0 m 0 ls []) := by
  have hx := hC.1
  have hb := hC.2.1
  unfold f_X6_rhymesOf at hf
  refine lv_iconst (v := 0) hx hb dX6_rhymesOf_0 (by decide) ?_
  refine lv_istore_n (lv' := [(2, .int 0), (0, .ref (ad 19)), (1, .int x1)]) hx hb dX6_rhymesOf_1 rfl hl (by decide) rfl (fun ls hl => ?_)
  refine lv_iconst (v := 0) hx hb dX6_rhymesOf_2 (by decide) ?_
  refine lv_istore_n (lv' := [(3, .int 0), (2, .int 0), (0, .ref (ad 19)), (1, .int x1)]) hx hb dX6_rhymesOf_3 rfl hl (by decide) rfl (fun ls hl => ?_)
  exact k_X6_rhymesOf_4l hC fu_ _ _ _ _ _ _ hf hw (lv_sub hl [2, 3, 1, 0] rfl)
set_option maxRecDepth 100000 in
theorem c_X6_rhymesOf {l : Launch} {D : va_G} {cy : Nat → ClassId} {z0 : Nat} {ad : Nat → Nat} {u : Nat × Nat} {X : va_W} {z : Int32} {x1 : Int32} {M : mm_M} (hf : f_X6_rhymesOf x1 M = some z) : ct_i cx_T l yX6_rhymesOf (Cond.code yX6_rhymesOf cX6_rhymesOf 4 (some .int)) 0 0 D cy z0 ad u M X [.ref (ad 19), .int x1] z M := by
  refine bgc_i (by decide) (fun p e s m below meth c hC hw => ?_)
  refine en_t (Nat.le_of_ble_eq_true rfl) (fun ls hl => ?_)
  have hl : lv_has ls 4 [(0, .ref (ad 19)), (1, .int x1)] := hl
  exact k_X6_rhymesOf hC hf hw hl
set_option maxRecDepth 100000 in
set_option maxHeartbeats 4000000 in
theorem k_X11_eye_192 {p : Program} {l : Launch} {e : Env} {s : State} {m : MethodId} {args : Array Value} {below : List Frame} {meth : Method} {c : Code} {D : va_G} {cy : Nat → ClassId} {z0 : Nat} {ad : Nat → Nat} {X : va_W} {u : Nat × Nat} (hC : cx_C p s m args meth c cX11_eye "RhymedThen" (Cond.code yX11_eye cX11_eye 11 (some .int)) 11 (some .int)) {z : (Int32 × mm_M)} {c0 : Nat} {x2 : Int32} {x3 : Int32} {x4 : Int32} {x5 : Int32} {x6 : Int32} {x7 : Int32} {x8 : Int32} {M : mm_M} (hc0 : c0 ≤ M.2.2) {q50 : Int32 → Int32 → Int32 → Int32 → Int32 → Int32 → Int32 → mm_M → Option (Int32 × mm_M)} (hq50 : ∀ (x2 : Int32) (x3 : Int32) (x4 : Int32) (x5 : Int32) (x6 : Int32) (x7 : Int32) (x8 : Int32) (M : mm_M) (u : Nat × Nat) (H : Heap) (locs : List Loc) (ls : Array Slot), c0 ≤ M.2.2 → q50 x2 x3 x4 x5 x6 x7 x8 M = some z → wd_in cx_T D cy z0 ad u M X s H locs → lv_has ls 11 [(0, .ref (ad 0)), (2, .int x2), (3, .int x3), (4, .int x4), (5, .int x5), (6, .int x6), (7, .int x7), (8, .int x8)] → W p l e { frames := 8, cells := 2 * (z.2.2.2 - c0), slots := 52 * (z.2.2.2 - c0), locals := 238 } s m args below meth c H locs (2 * (M.2.2 - c0)) (52 * (M.2.2 - c0)) (MQ below (aq_i cx_T D cy z0 ad X z.1 z.2) args s (2 * (z.2.2.2 - c0)) (52 * (z.2.2.2 - c0)) (fun q => z0 ≤ q)) (F0 m 50 ls [])) (hm50 : ∀ (x2 : Int32) (x3 : Int32) (x4 : Int32) (x5 : Int32) (x6 : Int32) (x7 : Int32) (x8 : Int32) (M : mm_M), q50 x2 x3 x4 x5 x6 x7 x8 M = some z → M.2.2 ≤ z.2.2.2) (hf : f_X11_eye_192 q50 x2 x3 x4 x5 x6 x7 x8 M = some z) {H : Heap} {locs : List Loc} (hw : wd_in cx_T D cy z0 ad u M X s H locs) {ls : Array Slot} (hl : lv_has ls 11 [(0, .ref (ad 0)), (2, .int x2), (3, .int x3), (4, .int x4), (5, .int x5), (6, .int x6), (7, .int x7), (8, .int x8)]) : W p l e { frames := 8, cells := 2 * (z.2.2.2 - c0), slots := 52 * (z.2.2.2 - c0), locals := 238 } s m args below meth c H locs (2 * (M.2.2 - c0)) (52 * (M.2.2 - c0)) (MQ below (aq_i cx_T D cy z0 ad X z.1 z.2) args s (2 * (z.2.2.2 - c0)) (52 * (z.2.2.2 - c0)) (fun q => z0 ≤ q)) (F0 m 192 ls []) := by
  have hx := hC.1
  have hb := hC.2.1
  have hmz : M.2.2 ≤ z.2.2.2 := mo_X11_eye_192 hm50 hf
  unfold f_X11_eye_192 at hf
  obtain ⟨y16, ey16, hf⟩ := sq_e hf
  refine lv_iinc (v := y16) (lv' := [(8, .int y16), (0, .ref (ad 0)), (2, .int x2), (3, .int x3), (4, .int x4), (5, .int x5), (6, .int x6), (7, .int x7)]) hx hb dX11_eye_192 hl (k := 7) rfl (by rw [ey16]; rfl) (by decide) rfl (fun ls hl => ?_)
  refine lv_goto (tgt := 50) hx hb dX11_eye_195 (by decide) ?_
  refine W.widen (k := 2 * (M.2.2 - c0)) (n := 52 * (M.2.2 - c0)) (by omega) (by omega) ?_
  exact hq50 _ _ _ _ _ _ _ _ _ _ _ _ (by omega) hf hw (lv_sub hl [1, 2, 3, 4, 5, 6, 7, 0] rfl)
set_option maxRecDepth 100000 in
set_option maxHeartbeats 4000000 in
theorem k_X11_eye_189 {p : Program} {l : Launch} {e : Env} {s : State} {m : MethodId} {args : Array Value} {below : List Frame} {meth : Method} {c : Code} {D : va_G} {cy : Nat → ClassId} {z0 : Nat} {ad : Nat → Nat} {X : va_W} {u : Nat × Nat} (hC : cx_C p s m args meth c cX11_eye "RhymedThen" (Cond.code yX11_eye cX11_eye 11 (some .int)) 11 (some .int)) {z : (Int32 × mm_M)} {c0 : Nat} {x2 : Int32} {x3 : Int32} {x4 : Int32} {x6 : Int32} {x7 : Int32} {x8 : Int32} {t0 : Int32} {t1 : Int32} {M : mm_M} (hc0 : c0 ≤ M.2.2) {q50 : Int32 → Int32 → Int32 → Int32 → Int32 → Int32 → Int32 → mm_M → Option (Int32 × mm_M)} (hq50 : ∀ (x2 : Int32) (x3 : Int32) (x4 : Int32) (x5 : Int32) (x6 : Int32) (x7 : Int32) (x8 : Int32) (M : mm_M) (u : Nat × Nat) (H : Heap) (locs : List Loc) (ls : Array Slot), c0 ≤ M.2.2 → q50 x2 x3 x4 x5 x6 x7 x8 M = some z → wd_in cx_T D cy z0 ad u M X s H locs → lv_has ls 11 [(0, .ref (ad 0)), (2, .int x2), (3, .int x3), (4, .int x4), (5, .int x5), (6, .int x6), (7, .int x7), (8, .int x8)] → W p l e { frames := 8, cells := 2 * (z.2.2.2 - c0), slots := 52 * (z.2.2.2 - c0), locals := 238 } s m args below meth c H locs (2 * (M.2.2 - c0)) (52 * (M.2.2 - c0)) (MQ below (aq_i cx_T D cy z0 ad X z.1 z.2) args s (2 * (z.2.2.2 - c0)) (52 * (z.2.2.2 - c0)) (fun q => z0 ≤ q)) (F0 m 50 ls [])) (hm50 : ∀ (x2 : Int32) (x3 : Int32) (x4 : Int32) (x5 : Int32) (x6 : Int32) (x7 : Int32) (x8 : Int32) (M : mm_M), q50 x2 x3 x4 x5 x6 x7 x8 M = some z → M.2.2 ≤ z.2.2.2) (hf : f_X11_eye_189 q50 x2 x3 x4 x6 x7 x8 t0 t1 M = some z) {H : Heap} {locs : List Loc} (hw : wd_in cx_T D cy z0 ad u M X s H locs) {ls : Array Slot} (hl : lv_has ls 11 [(0, .ref (ad 0)), (2, .int x2), (3, .int x3), (4, .int x4), (6, .int x6), (7, .int x7), (8, .int x8)]) : W p l e { frames := 8, cells := 2 * (z.2.2.2 - c0), slots := 52 * (z.2.2.2 - c0), locals := 238 } s m args below meth c H locs (2 * (M.2.2 - c0)) (52 * (M.2.2 - c0)) (MQ below (aq_i cx_T D cy z0 ad X z.1 z.2) args s (2 * (z.2.2.2 - c0)) (52 * (z.2.2.2 - c0)) (fun q => z0 ≤ q)) (F0 m 189 ls [.int t1, .int t0]) := by
  have hx := hC.1
  have hb := hC.2.1
  have hmz : M.2.2 ≤ z.2.2.2 := mo_X11_eye_189 hm50 hf
  unfold f_X11_eye_189 at hf
  refine lv_iadd hx hb dX11_eye_189 ?_
  obtain ⟨y29, ey29, hf⟩ := sq_e hf
  refine lt_i ey29 ?_
  refine lv_istore (lv' := [(5, .int y29), (0, .ref (ad 0)), (2, .int x2), (3, .int x3), (4, .int x4), (6, .int x6), (7, .int x7), (8, .int x8)]) hx hb dX11_eye_190 hl (by decide) rfl (fun ls hl => ?_)
  refine W.widen (k := 2 * (M.2.2 - c0)) (n := 52 * (M.2.2 - c0)) (by omega) (by omega) ?_
  exact k_X11_eye_192 hC (by omega) hq50 hm50 hf hw (lv_sub hl [1, 2, 3, 4, 0, 5, 6, 7] rfl)
set_option maxRecDepth 100000 in
set_option maxHeartbeats 4000000 in
theorem k_X11_eye_188 {p : Program} {l : Launch} {e : Env} {s : State} {m : MethodId} {args : Array Value} {below : List Frame} {meth : Method} {c : Code} {D : va_G} {cy : Nat → ClassId} {z0 : Nat} {ad : Nat → Nat} {X : va_W} {u : Nat × Nat} (hC : cx_C p s m args meth c cX11_eye "RhymedThen" (Cond.code yX11_eye cX11_eye 11 (some .int)) 11 (some .int)) {z : (Int32 × mm_M)} {c0 : Nat} {x2 : Int32} {x3 : Int32} {x4 : Int32} {x6 : Int32} {x7 : Int32} {x8 : Int32} {t0 : Int32} {M : mm_M} (hc0 : c0 ≤ M.2.2) {q50 : Int32 → Int32 → Int32 → Int32 → Int32 → Int32 → Int32 → mm_M → Option (Int32 × mm_M)} (hq50 : ∀ (x2 : Int32) (x3 : Int32) (x4 : Int32) (x5 : Int32) (x6 : Int32) (x7 : Int32) (x8 : Int32) (M : mm_M) (u : Nat × Nat) (H : Heap) (locs : List Loc) (ls : Array Slot), c0 ≤ M.2.2 → q50 x2 x3 x4 x5 x6 x7 x8 M = some z → wd_in cx_T D cy z0 ad u M X s H locs → lv_has ls 11 [(0, .ref (ad 0)), (2, .int x2), (3, .int x3), (4, .int x4), (5, .int x5), (6, .int x6), (7, .int x7), (8, .int x8)] → W p l e { frames := 8, cells := 2 * (z.2.2.2 - c0), slots := 52 * (z.2.2.2 - c0), locals := 238 } s m args below meth c H locs (2 * (M.2.2 - c0)) (52 * (M.2.2 - c0)) (MQ below (aq_i cx_T D cy z0 ad X z.1 z.2) args s (2 * (z.2.2.2 - c0)) (52 * (z.2.2.2 - c0)) (fun q => z0 ≤ q)) (F0 m 50 ls [])) (hm50 : ∀ (x2 : Int32) (x3 : Int32) (x4 : Int32) (x5 : Int32) (x6 : Int32) (x7 : Int32) (x8 : Int32) (M : mm_M), q50 x2 x3 x4 x5 x6 x7 x8 M = some z → M.2.2 ≤ z.2.2.2) (hf : f_X11_eye_188 q50 x2 x3 x4 x6 x7 x8 t0 M = some z) {H : Heap} {locs : List Loc} (hw : wd_in cx_T D cy z0 ad u M X s H locs) {ls : Array Slot} (hl : lv_has ls 11 [(0, .ref (ad 0)), (2, .int x2), (3, .int x3), (4, .int x4), (6, .int x6), (7, .int x7), (8, .int x8)]) : W p l e { frames := 8, cells := 2 * (z.2.2.2 - c0), slots := 52 * (z.2.2.2 - c0), locals := 238 } s m args below meth c H locs (2 * (M.2.2 - c0)) (52 * (M.2.2 - c0)) (MQ below (aq_i cx_T D cy z0 ad X z.1 z.2) args s (2 * (z.2.2.2 - c0)) (52 * (z.2.2.2 - c0)) (fun q => z0 ≤ q)) (F0 m 188 ls [.int t0]) := by
  have hx := hC.1
  have hb := hC.2.1
  have hmz : M.2.2 ≤ z.2.2.2 := mo_X11_eye_188 hm50 hf
  unfold f_X11_eye_188 at hf
  refine lv_iconst (v := 0) hx hb dX11_eye_188 (by decide) ?_
  refine W.widen (k := 2 * (M.2.2 - c0)) (n := 52 * (M.2.2 - c0)) (by omega) (by omega) ?_
  exact k_X11_eye_189 hC (by omega) hq50 hm50 hf hw (lv_sub hl [0, 1, 2, 3, 4, 5, 6] rfl)
set_option maxRecDepth 100000 in
set_option maxHeartbeats 4000000 in
theorem k_X11_eye_169 {p : Program} {l : Launch} {e : Env} {s : State} {m : MethodId} {args : Array Value} {below : List Frame} {meth : Method} {c : Code} {D : va_G} {cy : Nat → ClassId} {z0 : Nat} {ad : Nat → Nat} {X : va_W} {u : Nat × Nat} (hC : cx_C p s m args meth c cX11_eye "RhymedThen" (Cond.code yX11_eye cX11_eye 11 (some .int)) 11 (some .int)) {z : (Int32 × mm_M)} {c0 : Nat} {x2 : Int32} {x3 : Int32} {x5 : Int32} {x6 : Int32} {x7 : Int32} {x8 : Int32} {x9 : Int32} {x10 : Int32} {t0 : Int32} {t1 : Int32} {M : mm_M} (hc0 : c0 ≤ M.2.2) {q50 : Int32 → Int32 → Int32 → Int32 → Int32 → Int32 → Int32 → mm_M → Option (Int32 × mm_M)} (hq50 : ∀ (x2 : Int32) (x3 : Int32) (x4 : Int32) (x5 : Int32) (x6 : Int32) (x7 : Int32) (x8 : Int32) (M : mm_M) (u : Nat × Nat) (H : Heap) (locs : List Loc) (ls : Array Slot), c0 ≤ M.2.2 → q50 x2 x3 x4 x5 x6 x7 x8 M = some z → wd_in cx_T D cy z0 ad u M X s H locs → lv_has ls 11 [(0, .ref (ad 0)), (2, .int x2), (3, .int x3), (4, .int x4), (5, .int x5), (6, .int x6), (7, .int x7), (8, .int x8)] → W p l e { frames := 8, cells := 2 * (z.2.2.2 - c0), slots := 52 * (z.2.2.2 - c0), locals := 238 } s m args below meth c H locs (2 * (M.2.2 - c0)) (52 * (M.2.2 - c0)) (MQ below (aq_i cx_T D cy z0 ad X z.1 z.2) args s (2 * (z.2.2.2 - c0)) (52 * (z.2.2.2 - c0)) (fun q => z0 ≤ q)) (F0 m 50 ls [])) (hm50 : ∀ (x2 : Int32) (x3 : Int32) (x4 : Int32) (x5 : Int32) (x6 : Int32) (x7 : Int32) (x8 : Int32) (M : mm_M), q50 x2 x3 x4 x5 x6 x7 x8 M = some z → M.2.2 ≤ z.2.2.2) (hf : f_X11_eye_169 q50 x2 x3 x5 x6 x7 x8 x9 x10 t0 t1 M = some z) {H : Heap} {locs : List Loc} (hw : wd_in cx_T D cy z0 ad u M X s H locs) {ls : Array Slot} (hl : lv_has ls 11 [(0, .ref (ad 0)), (2, .int x2), (3, .int x3), (5, .int x5), (6, .int x6), (7, .int x7), (8, .int x8), (9, .int x9), (10, .int x10)]) : W p l e { frames := 8, cells := 2 * (z.2.2.2 - c0), slots := 52 * (z.2.2.2 - c0), locals := 238 } s m args below meth c H locs (2 * (M.2.2 - c0)) (52 * (M.2.2 - c0)) (MQ below (aq_i cx_T D cy z0 ad X z.1 z.2) args s (2 * (z.2.2.2 - c0)) (52 * (z.2.2.2 - c0)) (fun q => z0 ≤ q)) (F0 m 169 ls [.int t1, .int t0]) := by
  have hx := hC.1
  have hb := hC.2.1
  have hmz : M.2.2 ≤ z.2.2.2 := mo_X11_eye_169 hm50 hf
  unfold f_X11_eye_169 at hf
  refine lv_iadd hx hb dX11_eye_169 ?_
  obtain ⟨y26, ey26, hf⟩ := sq_e hf
  refine lt_i ey26 ?_
  refine lv_istore (lv' := [(4, .int y26), (0, .ref (ad 0)), (2, .int x2), (3, .int x3), (5, .int x5), (6, .int x6), (7, .int x7), (8, .int x8), (9, .int x9), (10, .int x10)]) hx hb dX11_eye_170 hl (by decide) rfl (fun ls hl => ?_)
  refine lv_iload hx hb dX11_eye_172 (lv_at hl 4 rfl) ?_
  refine lv_iload hx hb dX11_eye_174 (lv_at hl 8 rfl) ?_
  refine lv_if_ne (tgt := 188) hx hb dX11_eye_176 (by decide) (fun c27 => ?_) (fun c27 => ?_)
  · rw [if_neg c27] at hf
    refine W.widen (k := 2 * (M.2.2 - c0)) (n := 52 * (M.2.2 - c0)) (by omega) (by omega) ?_
    exact k_X11_eye_188 hC (by omega) hq50 hm50 hf hw (lv_sub hl [1, 2, 3, 0, 5, 6, 7] rfl)
  · rw [if_pos c27] at hf
    refine lv_iload hx hb dX11_eye_179 (lv_at hl 9 rfl) ?_
    refine lv_if_eq (tgt := 188) hx hb dX11_eye_181 (by decide) (fun c28 => ?_) (fun c28 => ?_)
    · rw [if_pos c28] at hf
      refine W.widen (k := 2 * (M.2.2 - c0)) (n := 52 * (M.2.2 - c0)) (by omega) (by omega) ?_
      exact k_X11_eye_188 hC (by omega) hq50 hm50 hf hw (lv_sub hl [1, 2, 3, 0, 5, 6, 7] rfl)
    · rw [if_neg c28] at hf
      refine lv_iconst (v := 1) hx hb dX11_eye_184 (by decide) ?_
      refine lv_goto (tgt := 189) hx hb dX11_eye_185 (by decide) ?_
      refine W.widen (k := 2 * (M.2.2 - c0)) (n := 52 * (M.2.2 - c0)) (by omega) (by omega) ?_
      exact k_X11_eye_189 hC (by omega) hq50 hm50 hf hw (lv_sub hl [1, 2, 3, 0, 5, 6, 7] rfl)
set_option maxRecDepth 100000 in
set_option maxHeartbeats 4000000 in
theorem k_X11_eye_168 {p : Program} {l : Launch} {e : Env} {s : State} {m : MethodId} {args : Array Value} {below : List Frame} {meth : Method} {c : Code} {D : va_G} {cy : Nat → ClassId} {z0 : Nat} {ad : Nat → Nat} {X : va_W} {u : Nat × Nat} (hC : cx_C p s m args meth c cX11_eye "RhymedThen" (Cond.code yX11_eye cX11_eye 11 (some .int)) 11 (some .int)) {z : (Int32 × mm_M)} {c0 : Nat} {x2 : Int32} {x3 : Int32} {x5 : Int32} {x6 : Int32} {x7 : Int32} {x8 : Int32} {x9 : Int32} {x10 : Int32} {t0 : Int32} {M : mm_M} (hc0 : c0 ≤ M.2.2) {q50 : Int32 → Int32 → Int32 → Int32 → Int32 → Int32 → Int32 → mm_M → Option (Int32 × mm_M)} (hq50 : ∀ (x2 : Int32) (x3 : Int32) (x4 : Int32) (x5 : Int32) (x6 : Int32) (x7 : Int32) (x8 : Int32) (M : mm_M) (u : Nat × Nat) (H : Heap) (locs : List Loc) (ls : Array Slot), c0 ≤ M.2.2 → q50 x2 x3 x4 x5 x6 x7 x8 M = some z → wd_in cx_T D cy z0 ad u M X s H locs → lv_has ls 11 [(0, .ref (ad 0)), (2, .int x2), (3, .int x3), (4, .int x4), (5, .int x5), (6, .int x6), (7, .int x7), (8, .int x8)] → W p l e { frames := 8, cells := 2 * (z.2.2.2 - c0), slots := 52 * (z.2.2.2 - c0), locals := 238 } s m args below meth c H locs (2 * (M.2.2 - c0)) (52 * (M.2.2 - c0)) (MQ below (aq_i cx_T D cy z0 ad X z.1 z.2) args s (2 * (z.2.2.2 - c0)) (52 * (z.2.2.2 - c0)) (fun q => z0 ≤ q)) (F0 m 50 ls [])) (hm50 : ∀ (x2 : Int32) (x3 : Int32) (x4 : Int32) (x5 : Int32) (x6 : Int32) (x7 : Int32) (x8 : Int32) (M : mm_M), q50 x2 x3 x4 x5 x6 x7 x8 M = some z → M.2.2 ≤ z.2.2.2) (hf : f_X11_eye_168 q50 x2 x3 x5 x6 x7 x8 x9 x10 t0 M = some z) {H : Heap} {locs : List Loc} (hw : wd_in cx_T D cy z0 ad u M X s H locs) {ls : Array Slot} (hl : lv_has ls 11 [(0, .ref (ad 0)), (2, .int x2), (3, .int x3), (5, .int x5), (6, .int x6), (7, .int x7), (8, .int x8), (9, .int x9), (10, .int x10)]) : W p l e { frames := 8, cells := 2 * (z.2.2.2 - c0), slots := 52 * (z.2.2.2 - c0), locals := 238 } s m args below meth c H locs (2 * (M.2.2 - c0)) (52 * (M.2.2 - c0)) (MQ below (aq_i cx_T D cy z0 ad X z.1 z.2) args s (2 * (z.2.2.2 - c0)) (52 * (z.2.2.2 - c0)) (fun q => z0 ≤ q)) (F0 m 168 ls [.int t0]) := by
  have hx := hC.1
  have hb := hC.2.1
  have hmz : M.2.2 ≤ z.2.2.2 := mo_X11_eye_168 hm50 hf
  unfold f_X11_eye_168 at hf
  refine lv_iconst (v := 0) hx hb dX11_eye_168 (by decide) ?_
  refine W.widen (k := 2 * (M.2.2 - c0)) (n := 52 * (M.2.2 - c0)) (by omega) (by omega) ?_
  exact k_X11_eye_169 hC (by omega) hq50 hm50 hf hw (lv_sub hl [0, 1, 2, 3, 4, 5, 6, 7, 8] rfl)
set_option maxRecDepth 100000 in
set_option maxHeartbeats 4000000 in
theorem k_X11_eye_150 {p : Program} {l : Launch} {e : Env} {s : State} {m : MethodId} {args : Array Value} {below : List Frame} {meth : Method} {c : Code} {D : va_G} {cy : Nat → ClassId} {z0 : Nat} {ad : Nat → Nat} {X : va_W} {u : Nat × Nat} (hC : cx_C p s m args meth c cX11_eye "RhymedThen" (Cond.code yX11_eye cX11_eye 11 (some .int)) 11 (some .int)) {z : (Int32 × mm_M)} {c0 : Nat} {x2 : Int32} {x4 : Int32} {x5 : Int32} {x6 : Int32} {x7 : Int32} {x8 : Int32} {x9 : Int32} {x10 : Int32} {t0 : Int32} {t1 : Int32} {M : mm_M} (hc0 : c0 ≤ M.2.2) {q50 : Int32 → Int32 → Int32 → Int32 → Int32 → Int32 → Int32 → mm_M → Option (Int32 × mm_M)} (hq50 : ∀ (x2 : Int32) (x3 : Int32) (x4 : Int32) (x5 : Int32) (x6 : Int32) (x7 : Int32) (x8 : Int32) (M : mm_M) (u : Nat × Nat) (H : Heap) (locs : List Loc) (ls : Array Slot), c0 ≤ M.2.2 → q50 x2 x3 x4 x5 x6 x7 x8 M = some z → wd_in cx_T D cy z0 ad u M X s H locs → lv_has ls 11 [(0, .ref (ad 0)), (2, .int x2), (3, .int x3), (4, .int x4), (5, .int x5), (6, .int x6), (7, .int x7), (8, .int x8)] → W p l e { frames := 8, cells := 2 * (z.2.2.2 - c0), slots := 52 * (z.2.2.2 - c0), locals := 238 } s m args below meth c H locs (2 * (M.2.2 - c0)) (52 * (M.2.2 - c0)) (MQ below (aq_i cx_T D cy z0 ad X z.1 z.2) args s (2 * (z.2.2.2 - c0)) (52 * (z.2.2.2 - c0)) (fun q => z0 ≤ q)) (F0 m 50 ls [])) (hm50 : ∀ (x2 : Int32) (x3 : Int32) (x4 : Int32) (x5 : Int32) (x6 : Int32) (x7 : Int32) (x8 : Int32) (M : mm_M), q50 x2 x3 x4 x5 x6 x7 x8 M = some z → M.2.2 ≤ z.2.2.2) (hf : f_X11_eye_150 q50 x2 x4 x5 x6 x7 x8 x9 x10 t0 t1 M = some z) {H : Heap} {locs : List Loc} (hw : wd_in cx_T D cy z0 ad u M X s H locs) {ls : Array Slot} (hl : lv_has ls 11 [(0, .ref (ad 0)), (2, .int x2), (4, .int x4), (5, .int x5), (6, .int x6), (7, .int x7), (8, .int x8), (9, .int x9), (10, .int x10)]) : W p l e { frames := 8, cells := 2 * (z.2.2.2 - c0), slots := 52 * (z.2.2.2 - c0), locals := 238 } s m args below meth c H locs (2 * (M.2.2 - c0)) (52 * (M.2.2 - c0)) (MQ below (aq_i cx_T D cy z0 ad X z.1 z.2) args s (2 * (z.2.2.2 - c0)) (52 * (z.2.2.2 - c0)) (fun q => z0 ≤ q)) (F0 m 150 ls [.int t1, .int t0]) := by
  have hx := hC.1
  have hb := hC.2.1
  have hmz : M.2.2 ≤ z.2.2.2 := mo_X11_eye_150 hm50 hf
  unfold f_X11_eye_150 at hf
  refine lv_iadd hx hb dX11_eye_150 ?_
  obtain ⟨y23, ey23, hf⟩ := sq_e hf
  refine lt_i ey23 ?_
  refine lv_istore_n (lv' := [(3, .int y23), (0, .ref (ad 0)), (2, .int x2), (4, .int x4), (5, .int x5), (6, .int x6), (7, .int x7), (8, .int x8), (9, .int x9), (10, .int x10)]) hx hb dX11_eye_151 rfl hl (by decide) rfl (fun ls hl => ?_)
  refine lv_iload hx hb dX11_eye_152 (lv_at hl 3 rfl) ?_
  refine lv_iload hx hb dX11_eye_154 (lv_at hl 8 rfl) ?_
  refine lv_if_eq (tgt := 168) hx hb dX11_eye_156 (by decide) (fun c24 => ?_) (fun c24 => ?_)
  · rw [if_pos c24] at hf
    refine W.widen (k := 2 * (M.2.2 - c0)) (n := 52 * (M.2.2 - c0)) (by omega) (by omega) ?_
    exact k_X11_eye_168 hC (by omega) hq50 hm50 hf hw (lv_sub hl [1, 2, 0, 4, 5, 6, 7, 8, 9] rfl)
  · rw [if_neg c24] at hf
    refine lv_iload hx hb dX11_eye_159 (lv_at hl 9 rfl) ?_
    refine lv_if_ne (tgt := 168) hx hb dX11_eye_161 (by decide) (fun c25 => ?_) (fun c25 => ?_)
    · rw [if_neg c25] at hf
      refine W.widen (k := 2 * (M.2.2 - c0)) (n := 52 * (M.2.2 - c0)) (by omega) (by omega) ?_
      exact k_X11_eye_168 hC (by omega) hq50 hm50 hf hw (lv_sub hl [1, 2, 0, 4, 5, 6, 7, 8, 9] rfl)
    · rw [if_pos c25] at hf
      refine lv_iconst (v := 1) hx hb dX11_eye_164 (by decide) ?_
      refine lv_goto (tgt := 169) hx hb dX11_eye_165 (by decide) ?_
      refine W.widen (k := 2 * (M.2.2 - c0)) (n := 52 * (M.2.2 - c0)) (by omega) (by omega) ?_
      exact k_X11_eye_169 hC (by omega) hq50 hm50 hf hw (lv_sub hl [1, 2, 0, 4, 5, 6, 7, 8, 9] rfl)
set_option maxRecDepth 100000 in
set_option maxHeartbeats 4000000 in
theorem k_X11_eye_149 {p : Program} {l : Launch} {e : Env} {s : State} {m : MethodId} {args : Array Value} {below : List Frame} {meth : Method} {c : Code} {D : va_G} {cy : Nat → ClassId} {z0 : Nat} {ad : Nat → Nat} {X : va_W} {u : Nat × Nat} (hC : cx_C p s m args meth c cX11_eye "RhymedThen" (Cond.code yX11_eye cX11_eye 11 (some .int)) 11 (some .int)) {z : (Int32 × mm_M)} {c0 : Nat} {x2 : Int32} {x4 : Int32} {x5 : Int32} {x6 : Int32} {x7 : Int32} {x8 : Int32} {x9 : Int32} {x10 : Int32} {t0 : Int32} {M : mm_M} (hc0 : c0 ≤ M.2.2) {q50 : Int32 → Int32 → Int32 → Int32 → Int32 → Int32 → Int32 → mm_M → Option (Int32 × mm_M)} (hq50 : ∀ (x2 : Int32) (x3 : Int32) (x4 : Int32) (x5 : Int32) (x6 : Int32) (x7 : Int32) (x8 : Int32) (M : mm_M) (u : Nat × Nat) (H : Heap) (locs : List Loc) (ls : Array Slot), c0 ≤ M.2.2 → q50 x2 x3 x4 x5 x6 x7 x8 M = some z → wd_in cx_T D cy z0 ad u M X s H locs → lv_has ls 11 [(0, .ref (ad 0)), (2, .int x2), (3, .int x3), (4, .int x4), (5, .int x5), (6, .int x6), (7, .int x7), (8, .int x8)] → W p l e { frames := 8, cells := 2 * (z.2.2.2 - c0), slots := 52 * (z.2.2.2 - c0), locals := 238 } s m args below meth c H locs (2 * (M.2.2 - c0)) (52 * (M.2.2 - c0)) (MQ below (aq_i cx_T D cy z0 ad X z.1 z.2) args s (2 * (z.2.2.2 - c0)) (52 * (z.2.2.2 - c0)) (fun q => z0 ≤ q)) (F0 m 50 ls [])) (hm50 : ∀ (x2 : Int32) (x3 : Int32) (x4 : Int32) (x5 : Int32) (x6 : Int32) (x7 : Int32) (x8 : Int32) (M : mm_M), q50 x2 x3 x4 x5 x6 x7 x8 M = some z → M.2.2 ≤ z.2.2.2) (hf : f_X11_eye_149 q50 x2 x4 x5 x6 x7 x8 x9 x10 t0 M = some z) {H : Heap} {locs : List Loc} (hw : wd_in cx_T D cy z0 ad u M X s H locs) {ls : Array Slot} (hl : lv_has ls 11 [(0, .ref (ad 0)), (2, .int x2), (4, .int x4), (5, .int x5), (6, .int x6), (7, .int x7), (8, .int x8), (9, .int x9), (10, .int x10)]) : W p l e { frames := 8, cells := 2 * (z.2.2.2 - c0), slots := 52 * (z.2.2.2 - c0), locals := 238 } s m args below meth c H locs (2 * (M.2.2 - c0)) (52 * (M.2.2 - c0)) (MQ below (aq_i cx_T D cy z0 ad X z.1 z.2) args s (2 * (z.2.2.2 - c0)) (52 * (z.2.2.2 - c0)) (fun q => z0 ≤ q)) (F0 m 149 ls [.int t0]) := by
  have hx := hC.1
  have hb := hC.2.1
  have hmz : M.2.2 ≤ z.2.2.2 := mo_X11_eye_149 hm50 hf
  unfold f_X11_eye_149 at hf
  refine lv_iconst (v := 0) hx hb dX11_eye_149 (by decide) ?_
  refine W.widen (k := 2 * (M.2.2 - c0)) (n := 52 * (M.2.2 - c0)) (by omega) (by omega) ?_
  exact k_X11_eye_150 hC (by omega) hq50 hm50 hf hw (lv_sub hl [0, 1, 2, 3, 4, 5, 6, 7, 8] rfl)
set_option maxRecDepth 100000 in
set_option maxHeartbeats 4000000 in
theorem k_X11_eye_93 {p : Program} {l : Launch} {e : Env} {s : State} {m : MethodId} {args : Array Value} {below : List Frame} {meth : Method} {c : Code} {D : va_G} {cy : Nat → ClassId} {z0 : Nat} {ad : Nat → Nat} {X : va_W} {u : Nat × Nat} (hC : cx_C p s m args meth c cX11_eye "RhymedThen" (Cond.code yX11_eye cX11_eye 11 (some .int)) 11 (some .int)) {z : (Int32 × mm_M)} {c0 : Nat} {x2 : Int32} {x3 : Int32} {x4 : Int32} {x5 : Int32} {x6 : Int32} {x7 : Int32} {x8 : Int32} {t0 : Int32} {M : mm_M} (hc0 : c0 ≤ M.2.2) {q50 : Int32 → Int32 → Int32 → Int32 → Int32 → Int32 → Int32 → mm_M → Option (Int32 × mm_M)} (hq50 : ∀ (x2 : Int32) (x3 : Int32) (x4 : Int32) (x5 : Int32) (x6 : Int32) (x7 : Int32) (x8 : Int32) (M : mm_M) (u : Nat × Nat) (H : Heap) (locs : List Loc) (ls : Array Slot), c0 ≤ M.2.2 → q50 x2 x3 x4 x5 x6 x7 x8 M = some z → wd_in cx_T D cy z0 ad u M X s H locs → lv_has ls 11 [(0, .ref (ad 0)), (2, .int x2), (3, .int x3), (4, .int x4), (5, .int x5), (6, .int x6), (7, .int x7), (8, .int x8)] → W p l e { frames := 8, cells := 2 * (z.2.2.2 - c0), slots := 52 * (z.2.2.2 - c0), locals := 238 } s m args below meth c H locs (2 * (M.2.2 - c0)) (52 * (M.2.2 - c0)) (MQ below (aq_i cx_T D cy z0 ad X z.1 z.2) args s (2 * (z.2.2.2 - c0)) (52 * (z.2.2.2 - c0)) (fun q => z0 ≤ q)) (F0 m 50 ls [])) (hm50 : ∀ (x2 : Int32) (x3 : Int32) (x4 : Int32) (x5 : Int32) (x6 : Int32) (x7 : Int32) (x8 : Int32) (M : mm_M), q50 x2 x3 x4 x5 x6 x7 x8 M = some z → M.2.2 ≤ z.2.2.2) (hf : f_X11_eye_93 q50 x2 x3 x4 x5 x6 x7 x8 t0 M = some z) {H : Heap} {locs : List Loc} (hw : wd_in cx_T D cy z0 ad u M X s H locs) {ls : Array Slot} (hl : lv_has ls 11 [(0, .ref (ad 0)), (2, .int x2), (3, .int x3), (4, .int x4), (5, .int x5), (6, .int x6), (7, .int x7), (8, .int x8)]) : W p l e { frames := 8, cells := 2 * (z.2.2.2 - c0), slots := 52 * (z.2.2.2 - c0), locals := 238 } s m args below meth c H locs (2 * (M.2.2 - c0)) (52 * (M.2.2 - c0)) (MQ below (aq_i cx_T D cy z0 ad X z.1 z.2) args s (2 * (z.2.2.2 - c0)) (52 * (z.2.2.2 - c0)) (fun q => z0 ≤ q)) (F0 m 93 ls [.int t0]) := by
  have hx := hC.1
  have hb := hC.2.1
  have hmz : M.2.2 ≤ z.2.2.2 := mo_X11_eye_93 hm50 hf
  unfold f_X11_eye_93 at hf
  refine lv_istore (lv' := [(9, .int t0), (0, .ref (ad 0)), (2, .int x2), (3, .int x3), (4, .int x4), (5, .int x5), (6, .int x6), (7, .int x7), (8, .int x8)]) hx hb dX11_eye_93 hl (by decide) rfl (fun ls hl => ?_)
  refine lv_aload_n hx hb dX11_eye_95 rfl (lv_at hl 1 rfl) ?_
  refine rg_p hC hw 0 (Nat.le_of_ble_eq_true rfl) rfl fd_X11_2 wf_X11_26 (q := 5) rfl dX11_eye_96 ?_
  refine lv_iconst (v := 0) hx hb dX11_eye_99 (by decide) ?_
  refine lv_aload_n hx hb dX11_eye_100 rfl (lv_at hl 1 rfl) ?_
  refine rg_p hC hw 0 (Nat.le_of_ble_eq_true rfl) rfl fd_X11_4 wf_X11_44 (q := 19) rfl dX11_eye_101 ?_
  refine rg_p hC hw 19 (Nat.le_of_ble_eq_true rfl) rfl fd_X6_2 wf_X11_260 (q := 20) rfl dX11_eye_104 ?_
  refine lv_iload hx hb dX11_eye_107 (lv_at hl 8 rfl) ?_
  obtain ⟨h17, hf⟩ := ck_e hf
  refine ra_S hC hw 20 (Nat.le_of_ble_eq_true rfl) rfl h17 dX11_eye_109 ?_
  refine rg_i hC hw (22 + x8.toNatClampNeg) (sg_lt (sg_ix h17)) (sg_kd (sg_ix h17)) fd_X5_1 wf_X11_373 dX11_eye_110 ?_
  refine lv_aload_n hx hb dX11_eye_113 rfl (lv_at hl 1 rfl) ?_
  refine rg_p hC hw 0 (Nat.le_of_ble_eq_true rfl) rfl fd_X11_4 wf_X11_44 (q := 19) rfl dX11_eye_114 ?_
  refine rg_p hC hw 19 (Nat.le_of_ble_eq_true rfl) rfl fd_X6_2 wf_X11_260 (q := 20) rfl dX11_eye_117 ?_
  refine lv_iload hx hb dX11_eye_120 (lv_at hl 8 rfl) ?_
  obtain ⟨h18, hf⟩ := ck_e hf
  refine ra_S hC hw 20 (Nat.le_of_ble_eq_true rfl) rfl h18 dX11_eye_122 ?_
  refine rg_i hC hw (22 + x8.toNatClampNeg) (sg_lt (sg_ix h18)) (sg_kd (sg_ix h18)) fd_X5_2 wf_X11_376 dX11_eye_123 ?_
  obtain ⟨z19, ez19, hf⟩ := bd_e hf
  refine clc_Vi hC hw (c_X9_rhymeOn ez19) hd_X9_rhymeOn cw_X11_225 (Nat.le_of_ble_eq_true rfl) rfl rfl (rest := []) hl.1 rfl (Nat.le_of_ble_eq_true rfl) ⟨Nat.le_of_ble_eq_true rfl, Nat.le_of_ble_eq_true rfl⟩ ⟨(show 2 * (M.2.2 - c0) ≤ 2 * (z.2.2.2 - c0) by omega), (show 52 * (M.2.2 - c0) ≤ 52 * (z.2.2.2 - c0) by omega)⟩ rfl dX11_eye_126 (fun H locs hw => ?_)
  refine lv_istore (lv' := [(10, .int z19), (9, .int t0), (0, .ref (ad 0)), (2, .int x2), (3, .int x3), (4, .int x4), (5, .int x5), (6, .int x6), (7, .int x7), (8, .int x8)]) hx hb dX11_eye_129 hl (by decide) rfl (fun ls hl => ?_)
  obtain ⟨y20, ey20, hf⟩ := sq_e hf
  refine lv_iinc (v := y20) (lv' := [(6, .int y20), (10, .int z19), (9, .int t0), (0, .ref (ad 0)), (2, .int x2), (3, .int x3), (4, .int x4), (5, .int x5), (7, .int x7), (8, .int x8)]) hx hb dX11_eye_131 hl (k := 7) rfl (by rw [ey20]; rfl) (by decide) rfl (fun ls hl => ?_)
  refine lv_iload_n hx hb dX11_eye_134 rfl (lv_at hl 5 rfl) ?_
  refine lv_iload hx hb dX11_eye_135 (lv_at hl 2 rfl) ?_
  refine lv_if_eq (tgt := 149) hx hb dX11_eye_137 (by decide) (fun c21 => ?_) (fun c21 => ?_)
  · rw [if_pos c21] at hf
    refine W.widen (k := 2 * (M.2.2 - c0)) (n := 52 * (M.2.2 - c0)) (by omega) (by omega) ?_
    exact k_X11_eye_149 hC (by omega) hq50 hm50 hf hw (lv_sub hl [3, 4, 6, 7, 0, 8, 9, 2, 1] rfl)
  · rw [if_neg c21] at hf
    refine lv_iload hx hb dX11_eye_140 (lv_at hl 1 rfl) ?_
    refine lv_if_eq (tgt := 149) hx hb dX11_eye_142 (by decide) (fun c22 => ?_) (fun c22 => ?_)
    · rw [if_pos c22] at hf
      refine W.widen (k := 2 * (M.2.2 - c0)) (n := 52 * (M.2.2 - c0)) (by omega) (by omega) ?_
      exact k_X11_eye_149 hC (by omega) hq50 hm50 hf hw (lv_sub hl [3, 4, 6, 7, 0, 8, 9, 2, 1] rfl)
    · rw [if_neg c22] at hf
      refine lv_iconst (v := 1) hx hb dX11_eye_145 (by decide) ?_
      refine lv_goto (tgt := 150) hx hb dX11_eye_146 (by decide) ?_
      refine W.widen (k := 2 * (M.2.2 - c0)) (n := 52 * (M.2.2 - c0)) (by omega) (by omega) ?_
      exact k_X11_eye_150 hC (by omega) hq50 hm50 hf hw (lv_sub hl [3, 4, 6, 7, 0, 8, 9, 2, 1] rfl)
set_option maxRecDepth 100000 in
set_option maxHeartbeats 4000000 in
theorem k_X11_eye_198 {p : Program} {l : Launch} {e : Env} {s : State} {m : MethodId} {args : Array Value} {below : List Frame} {meth : Method} {c : Code} {D : va_G} {cy : Nat → ClassId} {z0 : Nat} {ad : Nat → Nat} {X : va_W} {u : Nat × Nat} (hC : cx_C p s m args meth c cX11_eye "RhymedThen" (Cond.code yX11_eye cX11_eye 11 (some .int)) 11 (some .int)) {z : (Int32 × mm_M)} {c0 : Nat} {x3 : Int32} {x4 : Int32} {x5 : Int32} {x6 : Int32} {M : mm_M} (hc0 : c0 ≤ M.2.2) (hf : f_X11_eye_198 x3 x4 x5 x6 M = some z) {H : Heap} {locs : List Loc} (hw : wd_in cx_T D cy z0 ad u M X s H locs) {ls : Array Slot} (hl : lv_has ls 11 [(0, .ref (ad 0)), (3, .int x3), (4, .int x4), (5, .int x5), (6, .int x6)]) : W p l e { frames := 8, cells := 2 * (z.2.2.2 - c0), slots := 52 * (z.2.2.2 - c0), locals := 238 } s m args below meth c H locs (2 * (M.2.2 - c0)) (52 * (M.2.2 - c0)) (MQ below (aq_i cx_T D cy z0 ad X z.1 z.2) args s (2 * (z.2.2.2 - c0)) (52 * (z.2.2.2 - c0)) (fun q => z0 ≤ q)) (F0 m 198 ls []) := by
  have hx := hC.1
  have hb := hC.2.1
  have hmz : M.2.2 ≤ z.2.2.2 := mo_X11_eye_198 hf
  unfold f_X11_eye_198 at hf
  refine lv_aload_n hx hb dX11_eye_198 rfl (lv_at hl 0 rfl) ?_
  refine rg_p hC hw 0 (Nat.le_of_ble_eq_true rfl) rfl fd_X11_1 wf_X11_19 (q := 3) rfl dX11_eye_199 ?_
  obtain ⟨z11, ez11, hf⟩ := sq_e hf
  have mz11 : M.2.2 ≤ z11.2.2 := mo_X4_clear ez11.symm
  refine clc_Vv hC hw (c_X4_clear ez11.symm) hd_X4_clear cw_X11_192 (Nat.le_of_ble_eq_true rfl) rfl rfl (rest := []) hl.1 rfl (Nat.le_of_ble_eq_true rfl) ⟨Nat.le_of_ble_eq_true rfl, Nat.le_of_ble_eq_true rfl⟩ ⟨(show 2 * (M.2.2 - c0) ≤ 2 * (z.2.2.2 - c0) by omega), (show 52 * (M.2.2 - c0) ≤ 52 * (z.2.2.2 - c0) by omega)⟩ rfl dX11_eye_202 (fun H locs hw => ?_)
  refine lv_aload_n hx hb dX11_eye_205 rfl (lv_at hl 0 rfl) ?_
  refine rg_p hC hw 0 (Nat.le_of_ble_eq_true rfl) rfl fd_X11_1 wf_X11_19 (q := 3) rfl dX11_eye_206 ?_
  refine lv_iload_n hx hb dX11_eye_209 rfl (lv_at hl 1 rfl) ?_
  refine lv_i2l hx hb dX11_eye_210 rfl ?_
  obtain ⟨z12, ez12, hf⟩ := bd_e hf
  have mz12 : z11.2.2 ≤ z12.2.2 := mo_X4_add ez12
  refine clc_Vv hC hw (c_X4_add ez12) hd_X4_add cw_X11_214 (Nat.le_of_ble_eq_true rfl) rfl rfl (rest := []) hl.1 rfl (Nat.le_of_ble_eq_true rfl) ⟨Nat.le_of_ble_eq_true rfl, Nat.le_of_ble_eq_true rfl⟩ ⟨(show 2 * (M.2.2 - c0) ≤ 2 * (z.2.2.2 - c0) by omega), (show 52 * (M.2.2 - c0) ≤ 52 * (z.2.2.2 - c0) by omega)⟩ rfl dX11_eye_211 (fun H locs hw => ?_)
  refine lv_aload_n hx hb dX11_eye_214 rfl (lv_at hl 0 rfl) ?_
  refine rg_p hC hw 0 (Nat.le_of_ble_eq_true rfl) rfl fd_X11_1 wf_X11_19 (q := 3) rfl dX11_eye_215 ?_
  refine lv_iload hx hb dX11_eye_218 (lv_at hl 2 rfl) ?_
  refine lv_i2l hx hb dX11_eye_220 rfl ?_
  obtain ⟨z13, ez13, hf⟩ := bd_e hf
  have mz13 : z12.2.2 ≤ z13.2.2 := mo_X4_add ez13
  refine clc_Vv hC hw (c_X4_add ez13) hd_X4_add cw_X11_214 (Nat.le_of_ble_eq_true rfl) rfl rfl (rest := []) hl.1 rfl (Nat.le_of_ble_eq_true rfl) ⟨Nat.le_of_ble_eq_true rfl, Nat.le_of_ble_eq_true rfl⟩ ⟨(show 2 * (M.2.2 - c0) ≤ 2 * (z.2.2.2 - c0) by omega), (show 52 * (M.2.2 - c0) ≤ 52 * (z.2.2.2 - c0) by omega)⟩ rfl dX11_eye_221 (fun H locs hw => ?_)
  refine lv_aload_n hx hb dX11_eye_224 rfl (lv_at hl 0 rfl) ?_
  refine rg_p hC hw 0 (Nat.le_of_ble_eq_true rfl) rfl fd_X11_1 wf_X11_19 (q := 3) rfl dX11_eye_225 ?_
  refine lv_iload hx hb dX11_eye_228 (lv_at hl 3 rfl) ?_
  refine lv_i2l hx hb dX11_eye_230 rfl ?_
  obtain ⟨z14, ez14, hf⟩ := bd_e hf
  have mz14 : z13.2.2 ≤ z14.2.2 := mo_X4_add ez14
  refine clc_Vv hC hw (c_X4_add ez14) hd_X4_add cw_X11_214 (Nat.le_of_ble_eq_true rfl) rfl rfl (rest := []) hl.1 rfl (Nat.le_of_ble_eq_true rfl) ⟨Nat.le_of_ble_eq_true rfl, Nat.le_of_ble_eq_true rfl⟩ ⟨(show 2 * (M.2.2 - c0) ≤ 2 * (z.2.2.2 - c0) by omega), (show 52 * (M.2.2 - c0) ≤ 52 * (z.2.2.2 - c0) by omega)⟩ rfl dX11_eye_231 (fun H locs hw => ?_)
  refine lv_aload_n hx hb dX11_eye_234 rfl (lv_at hl 0 rfl) ?_
  refine rg_p hC hw 0 (Nat.le_of_ble_eq_true rfl) rfl fd_X11_1 wf_X11_19 (q := 3) rfl dX11_eye_235 ?_
  refine lv_iload hx hb dX11_eye_238 (lv_at hl 4 rfl) ?_
  refine lv_iload_n hx hb dX11_eye_240 rfl (lv_at hl 1 rfl) ?_
  refine lv_isub hx hb dX11_eye_241 ?_
  refine lv_iload hx hb dX11_eye_242 (lv_at hl 2 rfl) ?_
  refine lv_isub hx hb dX11_eye_244 ?_
  refine lv_iload hx hb dX11_eye_245 (lv_at hl 3 rfl) ?_
  refine lv_isub hx hb dX11_eye_247 ?_
  refine lv_i2l hx hb dX11_eye_248 rfl ?_
  obtain ⟨z15, ez15, hf⟩ := bd_e hf
  have mz15 : z14.2.2 ≤ z15.2.2 := mo_X4_add ez15
  refine clc_Vv hC hw (c_X4_add ez15) hd_X4_add cw_X11_214 (Nat.le_of_ble_eq_true rfl) rfl rfl (rest := []) hl.1 rfl (Nat.le_of_ble_eq_true rfl) ⟨Nat.le_of_ble_eq_true rfl, Nat.le_of_ble_eq_true rfl⟩ ⟨(show 2 * (M.2.2 - c0) ≤ 2 * (z.2.2.2 - c0) by omega), (show 52 * (M.2.2 - c0) ≤ 52 * (z.2.2.2 - c0) by omega)⟩ rfl dX11_eye_249 (fun H locs hw => ?_)
  refine lv_iload hx hb dX11_eye_252 (lv_at hl 4 rfl) ?_
  refine W.widen (k := 2 * (z.2.2.2 - c0)) (n := 52 * (z.2.2.2 - c0)) (by omega) (by omega) ?_
  have hz := Option.some.inj hf
  subst hz
  exact rta_i hC hw dX11_eye_254
set_option maxRecDepth 100000 in
set_option maxHeartbeats 4000000 in
theorem k_X11_eye_50 {p : Program} {l : Launch} {e : Env} {s : State} {m : MethodId} {args : Array Value} {below : List Frame} {meth : Method} {c : Code} {D : va_G} {cy : Nat → ClassId} {z0 : Nat} {ad : Nat → Nat} {X : va_W} {u : Nat × Nat} (hC : cx_C p s m args meth c cX11_eye "RhymedThen" (Cond.code yX11_eye cX11_eye 11 (some .int)) 11 (some .int)) {z : (Int32 × mm_M)} {c0 : Nat} {x2 : Int32} {x3 : Int32} {x4 : Int32} {x5 : Int32} {x6 : Int32} {x7 : Int32} {x8 : Int32} {M : mm_M} (hc0 : c0 ≤ M.2.2) {q50 : Int32 → Int32 → Int32 → Int32 → Int32 → Int32 → Int32 → mm_M → Option (Int32 × mm_M)} (hq50 : ∀ (x2 : Int32) (x3 : Int32) (x4 : Int32) (x5 : Int32) (x6 : Int32) (x7 : Int32) (x8 : Int32) (M : mm_M) (u : Nat × Nat) (H : Heap) (locs : List Loc) (ls : Array Slot), c0 ≤ M.2.2 → q50 x2 x3 x4 x5 x6 x7 x8 M = some z → wd_in cx_T D cy z0 ad u M X s H locs → lv_has ls 11 [(0, .ref (ad 0)), (2, .int x2), (3, .int x3), (4, .int x4), (5, .int x5), (6, .int x6), (7, .int x7), (8, .int x8)] → W p l e { frames := 8, cells := 2 * (z.2.2.2 - c0), slots := 52 * (z.2.2.2 - c0), locals := 238 } s m args below meth c H locs (2 * (M.2.2 - c0)) (52 * (M.2.2 - c0)) (MQ below (aq_i cx_T D cy z0 ad X z.1 z.2) args s (2 * (z.2.2.2 - c0)) (52 * (z.2.2.2 - c0)) (fun q => z0 ≤ q)) (F0 m 50 ls [])) (hm50 : ∀ (x2 : Int32) (x3 : Int32) (x4 : Int32) (x5 : Int32) (x6 : Int32) (x7 : Int32) (x8 : Int32) (M : mm_M), q50 x2 x3 x4 x5 x6 x7 x8 M = some z → M.2.2 ≤ z.2.2.2) (hf : f_X11_eye_50 q50 x2 x3 x4 x5 x6 x7 x8 M = some z) {H : Heap} {locs : List Loc} (hw : wd_in cx_T D cy z0 ad u M X s H locs) {ls : Array Slot} (hl : lv_has ls 11 [(0, .ref (ad 0)), (2, .int x2), (3, .int x3), (4, .int x4), (5, .int x5), (6, .int x6), (7, .int x7), (8, .int x8)]) : W p l e { frames := 8, cells := 2 * (z.2.2.2 - c0), slots := 52 * (z.2.2.2 - c0), locals := 238 } s m args below meth c H locs (2 * (M.2.2 - c0)) (52 * (M.2.2 - c0)) (MQ below (aq_i cx_T D cy z0 ad X z.1 z.2) args s (2 * (z.2.2.2 - c0)) (52 * (z.2.2.2 - c0)) (fun q => z0 ≤ q)) (F0 m 50 ls []) := by
  have hx := hC.1
  have hb := hC.2.1
  have hmz : M.2.2 ≤ z.2.2.2 := mo_X11_eye_50 hm50 hf
  unfold f_X11_eye_50 at hf
  refine lv_iload hx hb dX11_eye_50 (lv_at hl 7 rfl) ?_
  refine lv_aload_n hx hb dX11_eye_52 rfl (lv_at hl 0 rfl) ?_
  refine rg_p hC hw 0 (Nat.le_of_ble_eq_true rfl) rfl fd_X11_4 wf_X11_44 (q := 19) rfl dX11_eye_53 ?_
  refine rg_i hC hw 19 (Nat.le_of_ble_eq_true rfl) rfl fd_X6_3 wf_X11_251 dX11_eye_56 ?_
  refine lv_icmp_ge (tgt := 198) hx hb dX11_eye_59 (by decide) (fun c7 => ?_) (fun c7 => ?_)
  · rw [if_pos c7] at hf
    refine W.widen (k := 2 * (M.2.2 - c0)) (n := 52 * (M.2.2 - c0)) (by omega) (by omega) ?_
    exact k_X11_eye_198 hC (by omega) hf hw (lv_sub hl [0, 2, 3, 4, 5] rfl)
  · rw [if_neg c7] at hf
    refine lv_iload hx hb dX11_eye_62 (lv_at hl 6 rfl) ?_
    refine lv_iload hx hb dX11_eye_64 (lv_at hl 7 rfl) ?_
    refine lv_ishr hx hb dX11_eye_66 ?_
    refine lv_iconst (v := 1) hx hb dX11_eye_67 (by decide) ?_
    refine lv_iand hx hb dX11_eye_68 ?_
    refine lv_if_eq (tgt := 192) hx hb dX11_eye_69 (by decide) (fun c8 => ?_) (fun c8 => ?_)
    · rw [if_pos c8] at hf
      refine W.widen (k := 2 * (M.2.2 - c0)) (n := 52 * (M.2.2 - c0)) (by omega) (by omega) ?_
      exact k_X11_eye_192 hC (by omega) hq50 hm50 hf hw (lv_sub hl [0, 1, 2, 3, 4, 5, 6, 7] rfl)
    · rw [if_neg c8] at hf
      refine lv_aload_n hx hb dX11_eye_72 rfl (lv_at hl 0 rfl) ?_
      refine rg_p hC hw 0 (Nat.le_of_ble_eq_true rfl) rfl fd_X11_4 wf_X11_44 (q := 19) rfl dX11_eye_73 ?_
      refine lv_iload_n hx hb dX11_eye_76 rfl (lv_at hl 1 rfl) ?_
      obtain ⟨z9, ez9, hf⟩ := bd_e hf
      refine clc_Vi hC hw (c_X6_heldBy ez9) hd_X6_heldBy cw_X11_289 (Nat.le_of_ble_eq_true rfl) rfl rfl (rest := []) hl.1 rfl (Nat.le_of_ble_eq_true rfl) ⟨Nat.le_of_ble_eq_true rfl, Nat.le_of_ble_eq_true rfl⟩ ⟨(show 2 * (M.2.2 - c0) ≤ 2 * (z.2.2.2 - c0) by omega), (show 52 * (M.2.2 - c0) ≤ 52 * (z.2.2.2 - c0) by omega)⟩ rfl dX11_eye_77 (fun H locs hw => ?_)
      refine lv_iload hx hb dX11_eye_80 (lv_at hl 7 rfl) ?_
      refine lv_ishr hx hb dX11_eye_82 ?_
      refine lv_iconst (v := 1) hx hb dX11_eye_83 (by decide) ?_
      refine lv_iand hx hb dX11_eye_84 ?_
      refine lv_if_eq (tgt := 92) hx hb dX11_eye_85 (by decide) (fun c10 => ?_) (fun c10 => ?_)
      · rw [if_pos c10] at hf
        refine lv_iconst (v := 0) hx hb dX11_eye_92 (by decide) ?_
        refine W.widen (k := 2 * (M.2.2 - c0)) (n := 52 * (M.2.2 - c0)) (by omega) (by omega) ?_
        exact k_X11_eye_93 hC (by omega) hq50 hm50 hf hw (lv_sub hl [0, 1, 2, 3, 4, 5, 6, 7] rfl)
      · rw [if_neg c10] at hf
        refine lv_iconst (v := 1) hx hb dX11_eye_88 (by decide) ?_
        refine lv_goto (tgt := 93) hx hb dX11_eye_89 (by decide) ?_
        refine W.widen (k := 2 * (M.2.2 - c0)) (n := 52 * (M.2.2 - c0)) (by omega) (by omega) ?_
        exact k_X11_eye_93 hC (by omega) hq50 hm50 hf hw (lv_sub hl [0, 1, 2, 3, 4, 5, 6, 7] rfl)
set_option maxRecDepth 100000 in
set_option maxHeartbeats 4000000 in
theorem k_X11_eye_50l {p : Program} {l : Launch} {e : Env} {s : State} {m : MethodId} {args : Array Value} {below : List Frame} {meth : Method} {c : Code} {D : va_G} {cy : Nat → ClassId} {z0 : Nat} {ad : Nat → Nat} {X : va_W} (hC : cx_C p s m args meth c cX11_eye "RhymedThen" (Cond.code yX11_eye cX11_eye 11 (some .int)) 11 (some .int)) {z : (Int32 × mm_M)} {c0 : Nat} : ∀ (n : Nat) (x2 : Int32) (x3 : Int32) (x4 : Int32) (x5 : Int32) (x6 : Int32) (x7 : Int32) (x8 : Int32) (M : mm_M) (u : Nat × Nat) (H : Heap) (locs : List Loc) (ls : Array Slot), c0 ≤ M.2.2 → f_X11_eye_50l n x2 x3 x4 x5 x6 x7 x8 M = some z → wd_in cx_T D cy z0 ad u M X s H locs → lv_has ls 11 [(0, .ref (ad 0)), (2, .int x2), (3, .int x3), (4, .int x4), (5, .int x5), (6, .int x6), (7, .int x7), (8, .int x8)] → W p l e { frames := 8, cells := 2 * (z.2.2.2 - c0), slots := 52 * (z.2.2.2 - c0), locals := 238 } s m args below meth c H locs (2 * (M.2.2 - c0)) (52 * (M.2.2 - c0)) (MQ below (aq_i cx_T D cy z0 ad X z.1 z.2) args s (2 * (z.2.2.2 - c0)) (52 * (z.2.2.2 - c0)) (fun q => z0 ≤ q)) (F0 m 50 ls []) := by
  intro n
  induction n with
  | zero => intro x2 x3 x4 x5 x6 x7 x8 M u H locs ls hc0 hf; exact absurd hf (by simp [f_X11_eye_50l])
  | succ n ih => intro x2 x3 x4 x5 x6 x7 x8 M u H locs ls hc0 hf hw hl; exact k_X11_eye_50 hC hc0 ih (mo_X11_eye_50l n) hf hw hl
set_option maxRecDepth 100000 in
set_option maxHeartbeats 4000000 in
theorem k_X11_eye_26 {p : Program} {l : Launch} {e : Env} {s : State} {m : MethodId} {args : Array Value} {below : List Frame} {meth : Method} {c : Code} {D : va_G} {cy : Nat → ClassId} {z0 : Nat} {ad : Nat → Nat} {X : va_W} {u : Nat × Nat} (hC : cx_C p s m args meth c cX11_eye "RhymedThen" (Cond.code yX11_eye cX11_eye 11 (some .int)) 11 (some .int)) {z : (Int32 × mm_M)} {c0 : Nat} {x1 : Int32} {x2 : Int32} {M : mm_M} (hc0 : c0 ≤ M.2.2) (hf : f_X11_eye_26 x1 x2 M = some z) {H : Heap} {locs : List Loc} (hw : wd_in cx_T D cy z0 ad u M X s H locs) {ls : Array Slot} (hl : lv_has ls 11 [(0, .ref (ad 0)), (1, .int x1), (2, .int x2)]) : W p l e { frames := 8, cells := 2 * (z.2.2.2 - c0), slots := 52 * (z.2.2.2 - c0), locals := 238 } s m args below meth c H locs (2 * (M.2.2 - c0)) (52 * (M.2.2 - c0)) (MQ below (aq_i cx_T D cy z0 ad X z.1 z.2) args s (2 * (z.2.2.2 - c0)) (52 * (z.2.2.2 - c0)) (fun q => z0 ≤ q)) (F0 m 26 ls []) := by
  have hx := hC.1
  have hb := hC.2.1
  have hmz : M.2.2 ≤ z.2.2.2 := mo_X11_eye_26 hf
  unfold f_X11_eye_26 at hf
  refine lv_iconst (v := 0) hx hb dX11_eye_26 (by decide) ?_
  refine lv_istore_n (lv' := [(3, .int 0), (0, .ref (ad 0)), (1, .int x1), (2, .int x2)]) hx hb dX11_eye_27 rfl hl (by decide) rfl (fun ls hl => ?_)
  refine lv_iconst (v := 0) hx hb dX11_eye_28 (by decide) ?_
  refine lv_istore (lv' := [(4, .int 0), (3, .int 0), (0, .ref (ad 0)), (1, .int x1), (2, .int x2)]) hx hb dX11_eye_29 hl (by decide) rfl (fun ls hl => ?_)
  refine lv_iconst (v := 0) hx hb dX11_eye_31 (by decide) ?_
  refine lv_istore (lv' := [(5, .int 0), (4, .int 0), (3, .int 0), (0, .ref (ad 0)), (1, .int x1), (2, .int x2)]) hx hb dX11_eye_32 hl (by decide) rfl (fun ls hl => ?_)
  refine lv_iconst (v := 0) hx hb dX11_eye_34 (by decide) ?_
  refine lv_istore (lv' := [(6, .int 0), (5, .int 0), (4, .int 0), (3, .int 0), (0, .ref (ad 0)), (1, .int x1), (2, .int x2)]) hx hb dX11_eye_35 hl (by decide) rfl (fun ls hl => ?_)
  refine lv_aload_n hx hb dX11_eye_37 rfl (lv_at hl 4 rfl) ?_
  refine rg_p hC hw 0 (Nat.le_of_ble_eq_true rfl) rfl fd_X11_4 wf_X11_44 (q := 19) rfl dX11_eye_38 ?_
  refine lv_iload_n hx hb dX11_eye_41 rfl (lv_at hl 5 rfl) ?_
  obtain ⟨z6, ez6, hf⟩ := bd_e hf
  refine clc_Vi hC hw (c_X6_rhymesOf ez6) hd_X6_rhymesOf cw_X11_370 (Nat.le_of_ble_eq_true rfl) rfl rfl (rest := []) hl.1 rfl (Nat.le_of_ble_eq_true rfl) ⟨Nat.le_of_ble_eq_true rfl, Nat.le_of_ble_eq_true rfl⟩ ⟨(show 2 * (M.2.2 - c0) ≤ 2 * (z.2.2.2 - c0) by omega), (show 52 * (M.2.2 - c0) ≤ 52 * (z.2.2.2 - c0) by omega)⟩ rfl dX11_eye_42 (fun H locs hw => ?_)
  refine lv_istore (lv' := [(7, .int z6), (6, .int 0), (5, .int 0), (4, .int 0), (3, .int 0), (0, .ref (ad 0)), (1, .int x1), (2, .int x2)]) hx hb dX11_eye_45 hl (by decide) rfl (fun ls hl => ?_)
  refine lv_iconst (v := 0) hx hb dX11_eye_47 (by decide) ?_
  refine lv_istore (lv' := [(8, .int 0), (7, .int z6), (6, .int 0), (5, .int 0), (4, .int 0), (3, .int 0), (0, .ref (ad 0)), (1, .int x1), (2, .int x2)]) hx hb dX11_eye_48 hl (by decide) rfl (fun ls hl => ?_)
  refine W.widen (k := 2 * (M.2.2 - c0)) (n := 52 * (M.2.2 - c0)) (by omega) (by omega) ?_
  exact k_X11_eye_50l hC fu_ _ _ _ _ _ _ _ _ _ _ _ _ (by omega) hf hw (lv_sub hl [6, 8, 5, 4, 3, 2, 1, 0] rfl)
set_option maxRecDepth 100000 in
set_option maxHeartbeats 4000000 in
theorem k_X11_eye {p : Program} {l : Launch} {e : Env} {s : State} {m : MethodId} {args : Array Value} {below : List Frame} {meth : Method} {c : Code} {D : va_G} {cy : Nat → ClassId} {z0 : Nat} {ad : Nat → Nat} {X : va_W} {u : Nat × Nat} (hC : cx_C p s m args meth c cX11_eye "RhymedThen" (Cond.code yX11_eye cX11_eye 11 (some .int)) 11 (some .int)) {z : (Int32 × mm_M)} {c0 : Nat} {x1 : Int32} {x2 : Int32} {M : mm_M} (hc0 : c0 ≤ M.2.2) (hf : f_X11_eye x1 x2 M = some z) {H : Heap} {locs : List Loc} (hw : wd_in cx_T D cy z0 ad u M X s H locs) {ls : Array Slot} (hl : lv_has ls 11 [(0, .ref (ad 0)), (1, .int x1), (2, .int x2)]) : W p l e { frames := 8, cells := 2 * (z.2.2.2 - c0), slots := 52 * (z.2.2.2 - c0), locals := 238 } s m args below meth c H locs (2 * (M.2.2 - c0)) (52 * (M.2.2 - c0)) (MQ below (aq_i cx_T D cy z0 ad X z.1 z.2) args s (2 * (z.2.2.2 - c0)) (52 * (z.2.2.2 - c0)) (fun q => z0 ≤ q)) (F0 m 0 ls []) := by
  have hx := hC.1
  have hb := hC.2.1
  have hmz : M.2.2 ≤ z.2.2.2 := mo_X11_eye hf
  unfold f_X11_eye at hf
  refine lv_iload_n hx hb dX11_eye_0 rfl (lv_at hl 1 rfl) ?_
  refine lv_bipush (v := 6) hx hb dX11_eye_1 (by decide) ?_
  obtain ⟨z1, ez1, hf⟩ := sq_e hf
  refine clc_Si hC hw (c_X11_isBelow ez1.symm) hd_X11_isBelow cw_X11_101 (rest := []) hl.1 rfl (Nat.le_of_ble_eq_true rfl) ⟨Nat.le_of_ble_eq_true rfl, Nat.le_of_ble_eq_true rfl⟩ ⟨(show 2 * (M.2.2 - c0) ≤ 2 * (z.2.2.2 - c0) by omega), (show 52 * (M.2.2 - c0) ≤ 52 * (z.2.2.2 - c0) by omega)⟩ rfl dX11_eye_3 (fun H locs hw => ?_)
  refine lv_if_eq (tgt := 17) hx hb dX11_eye_6 (by decide) (fun c2 => ?_) (fun c2 => ?_)
  · rw [if_pos c2] at hf
    refine lv_iconst (v := (-1)) hx hb dX11_eye_17 (by decide) ?_
    refine W.widen (k := 2 * (z.2.2.2 - c0)) (n := 52 * (z.2.2.2 - c0)) (by omega) (by omega) ?_
    have hz := Option.some.inj hf
    subst hz
    exact rta_i hC hw dX11_eye_18
  · rw [if_neg c2] at hf
    refine lv_aload_n hx hb dX11_eye_9 rfl (lv_at hl 0 rfl) ?_
    refine lv_iload_n hx hb dX11_eye_10 rfl (lv_at hl 2 rfl) ?_
    obtain ⟨z3, ez3, hf⟩ := sq_e hf
    refine clc_Vi hC hw (c_X11_isHistory ez3.symm) hd_X11_isHistory cw_X11_218 (Nat.le_of_ble_eq_true rfl) rfl rfl (rest := []) hl.1 rfl (Nat.le_of_ble_eq_true rfl) ⟨Nat.le_of_ble_eq_true rfl, Nat.le_of_ble_eq_true rfl⟩ ⟨(show 2 * (M.2.2 - c0) ≤ 2 * (z.2.2.2 - c0) by omega), (show 52 * (M.2.2 - c0) ≤ 52 * (z.2.2.2 - c0) by omega)⟩ rfl dX11_eye_11 (fun H locs hw => ?_)
    refine lv_if_ne (tgt := 19) hx hb dX11_eye_14 (by decide) (fun c4 => ?_) (fun c4 => ?_)
    · rw [if_neg c4] at hf
      refine lv_aload_n hx hb dX11_eye_19 rfl (lv_at hl 0 rfl) ?_
      refine rg_p hC hw 0 (Nat.le_of_ble_eq_true rfl) rfl fd_X11_4 wf_X11_44 (q := 19) rfl dX11_eye_20 ?_
      obtain ⟨z5, ez5, hf⟩ := bd_e hf
      have mz5 : M.2.2 ≤ z5.2.2 := mo_X6_lookAnew ez5
      have hnz : z5.2.2 ≤ z.2.2.2 := mo_X11_eye_26 hf
      refine cla_Vv hC hw (c_X6_lookAnew ez5) hd_X6_lookAnew cw_X11_286 (Nat.le_of_ble_eq_true rfl) rfl rfl (rest := []) hl.1 rfl (Nat.le_of_ble_eq_true rfl) ⟨Nat.le_of_ble_eq_true rfl, Nat.le_of_ble_eq_true rfl⟩ ⟨(show 2 * (M.2.2 - c0) + 2 * (z5.2.2 - M.2.2) ≤ 2 * (z.2.2.2 - c0) by omega), (show 52 * (M.2.2 - c0) + 52 * (z5.2.2 - M.2.2) ≤ 52 * (z.2.2.2 - c0) by omega)⟩ rfl dX11_eye_23 (fun u H locs hw => ?_)
      refine W.widen (k := 2 * (z5.2.2 - c0)) (n := 52 * (z5.2.2 - c0)) (by omega) (by omega) ?_
      exact k_X11_eye_26 hC (by omega) hf hw (lv_sub hl [0, 1, 2] rfl)
    · rw [if_pos c4] at hf
      refine lv_iconst (v := (-1)) hx hb dX11_eye_17 (by decide) ?_
      refine W.widen (k := 2 * (z.2.2.2 - c0)) (n := 52 * (z.2.2.2 - c0)) (by omega) (by omega) ?_
      have hz := Option.some.inj hf
      subst hz
      exact rta_i hC hw dX11_eye_18
set_option maxRecDepth 100000 in
theorem c_X11_eye {l : Launch} {D : va_G} {cy : Nat → ClassId} {z0 : Nat} {ad : Nat → Nat} {u : Nat × Nat} {X : va_W} {z : (Int32 × mm_M)} {x1 : Int32} {x2 : Int32} {M : mm_M} (hf : f_X11_eye x1 x2 M = some z) : ca_i cx_T l yX11_eye (Cond.code yX11_eye cX11_eye 11 (some .int)) 8 238 D cy z0 ad u M X [.ref (ad 0), .int x1, .int x2] z.1 z.2 := by
  refine bga_i (by decide) (fun p e s m below meth c hC hw => ?_)
  refine en_t (Nat.le_of_ble_eq_true rfl) (fun ls hl => ?_)
  have hl : lv_has ls 11 [(0, .ref (ad 0)), (1, .int x1), (2, .int x2)] := hl
  refine W.widen (k := 2 * (M.2.2 - M.2.2)) (n := 52 * (M.2.2 - M.2.2)) (by omega) (by omega) ?_
  exact k_X11_eye hC (Nat.le_refl _) hf hw hl
