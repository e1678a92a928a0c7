/-! ROW: the class throws, the law's 'row' catches -/
def rx_E : String := "java/util/NoSuchElementException"
def rx_N : List String := ["java/lang/RuntimeException", "java/lang/Exception"]
def rx_i (C : String) : MethodName := ⟨C, "<init>", "()V"⟩
def rx_z (z0 : Nat) (U : State) (H : Heap) : Prop := va_Nw (.castable rx_E rx_E) U ∧ vx_Zq Bundle.tN "UNASSIGNED_STACK" Bundle.steD (fun q => z0 ≤ q) U H ∧ vx_Zq Bundle.tN "SUPPRESSED_SENTINEL" Bundle.listD (fun q => z0 ≤ q) U H ∧ va_Nw (.declares (rx_i "java/lang/RuntimeException")) U ∧ va_Nw (.declares (rx_i "java/lang/Exception")) U ∧ va_Nw (.declares (rx_i "java/lang/Throwable")) U
theorem rx_z.warm {z0 : Nat} {s U : State} {H : Heap} (hW : s.WarmedH U.vm) (h : rx_z z0 s H) : rx_z z0 U H := ⟨va_Nw.warmC hW h.1, vx_Zq.moved hW.alike h.2.1, vx_Zq.moved hW.alike h.2.2.1, va_Nw.warmD hW h.2.2.2.1, va_Nw.warmD hW h.2.2.2.2.1, va_Nw.warmD hW h.2.2.2.2.2⟩
theorem rx_z.kept {z0 : Nat} {s : State} {H H1 : Heap} (h : rx_z z0 s H) (hq : ∀ a : Nat, a < H.size → ¬ z0 ≤ a → H1[a]? = H[a]?) : rx_z z0 s H1 := ⟨h.1, h.2.1.kept hq, h.2.2.1.kept hq, h.2.2.2⟩
def rx_U (D : va_G) (cy : Nat → ClassId) (z0 : Nat) (ad : Nat → Nat) (u : Nat × Nat) (M : mm_M) (X : va_W) (U : State) : Prop := ct_U cx_T D cy z0 ad u M X U ∧ rx_z z0 U U.heap
theorem rx_blind {D : va_G} {cy : Nat → ClassId} {z0 : Nat} {ad : Nat → Nat} {u : Nat × Nat} {M : mm_M} {X : va_W} {as : List Value} : FrameBlind (va_Pc as (rx_U D cy z0 ad u M X)) := fun a U g mk q => by
  obtain ⟨q0, ⟨qK, qP, qD, qz, qn⟩, r1, r2, r3, r4, r5, r6⟩ := q
  exact ⟨q0, ⟨va_K.moved (u := U) (U := U.calling g mk a) (Vm.Alike.refl U.vm) qK, qP, qD, qz, va_Nw.same (u := U) (U := U.calling g mk a) rfl rfl qn⟩, va_Nw.same (u := U) (U := U.calling g mk a) rfl rfl r1, vx_Zq.moved (u := U) (U := U.calling g mk a) (Vm.Alike.refl U.vm) r2, vx_Zq.moved (u := U) (U := U.calling g mk a) (Vm.Alike.refl U.vm) r3, va_Nw.same (u := U) (U := U.calling g mk a) rfl rfl r4, va_Nw.same (u := U) (U := U.calling g mk a) rfl rfl r5, va_Nw.same (u := U) (U := U.calling g mk a) rfl rfl r6⟩
theorem rx_good : ∀ w ∈ (vx_at0 "RhymedThen" 456 rx_E rx_N).filter goodWord, w ∈ uw_U := by
  intro w hw
  have h : ∀ w ∈ (vx_at0 "RhymedThen" 456 "java/util/NoSuchElementException" ["java/lang/RuntimeException", "java/lang/Exception"]).filter goodWord, w ∈ lw_tbl := by decide +kernel
  exact List.mem_filter.mpr ⟨h w hw, (List.mem_filter.mp hw).2⟩
theorem rx_bad : ∀ w ∈ (vx_at0 "RhymedThen" 456 rx_E rx_N).filter (fun w => !goodWord w), w ∈ [Cond.castable rx_E rx_E, .declares (rx_i "java/lang/RuntimeException"), .declares (rx_i "java/lang/Exception"), .declares (rx_i "java/lang/Throwable")] := by decide +kernel
theorem rx_ot : ∀ w ∈ Cond.classLink "RhymedThen" 454 rx_E :: Cond.initialized rx_E :: vx_at0 "RhymedThen" 456 rx_E rx_N, vx_ot w = true := by decide +kernel
theorem rx_wk : Cond.classLink "RhymedThen" 454 rx_E ∈ uw_U := List.mem_filter.mpr ⟨List.mem_append_right _ (by decide +kernel), rfl⟩
theorem rx_wi : Cond.initialized rx_E ∈ uw_U := List.mem_filter.mpr ⟨List.mem_append_right _ (by decide +kernel), rfl⟩
theorem rx_wl : Cond.classLink "RhymedThenLaw" 13 rx_E ∈ uw_U := List.mem_filter.mpr ⟨List.mem_append_right _ (by decide +kernel), rfl⟩
def rx_G (M : mm_M) (x : Int32) : Prop := ¬ f_X11_isBelow x (M.1 3 1) = 0
def rx_Q (D : va_G) (cy : Nat → ClassId) (z0 : Nat) (ad : Nat → Nat) (u : Nat × Nat) (M : mm_M) (X : va_W) (x : Int32) : Array Value → State → Outcome → State → Prop := va_Ql (fun (r : Int64) (_ : Unit) => rx_G M x ∧ r = M.2.1 4 x.toNatClampNeg) (fun (_ : Unit) t => ct_B cx_T D cy z0 ad u M X t) (fun q => z0 ≤ q)
def rx_X (D : va_G) (cy : Nat → ClassId) (z0 : Nat) (ad : Nat → Nat) (u : Nat × Nat) (M : mm_M) (X : va_W) (x : Int32) : String → State → State → Prop := vx_X (fun (_ : Unit) => ¬ rx_G M x) (fun E (_ : Unit) t => E = rx_E ∧ ct_B cx_T D cy z0 ad u M X t) (fun q => z0 ≤ q)
def rx_rm : Room := { frames := 6, cells := 1, slots := 6, locals := 81 }
set_option maxRecDepth 100000 in
set_option maxHeartbeats 4000000 in
theorem c_X11_row {l : Launch} (hst : l.stackTraces = false) {D : va_G} {cy : Nat → ClassId} {z0 : Nat} {ad : Nat → Nat} {u : Nat × Nat} {X : va_W} {x1 : Int32} {M : mm_M} (hin : rx_G M x1 → ix_ok x1 24) : vx_Met l yX11_row (uw_m (Cond.code yX11_row cX11_row 2 (some .long))) rx_rm (va_Pc [.ref (ad 0), .int x1] (rx_U D cy z0 ad u M X)) (rx_Q D cy z0 ad u M X x1) (rx_X D cy z0 ad u M X x1) 1 6 (fun q => z0 ≤ q) := by
  refine vx_ofW (cc := cX11_row) (maxL := 2) (ret := some .long) (by decide) rfl (fun p e s m args below meth c s₁ B hml htab hv => ?_)
  obtain ⟨rfl, ⟨hK, hP, hD, hz, hN⟩, hzz⟩ := hv
  have hw : wd_in cx_T D cy z0 ad u M X s s.heap [] := ⟨hK, hP, hD, va_S.rf, hz, hN⟩
  have hC : cx_C p s m ([.ref (ad 0), .int x1] : List Value).toArray meth c cX11_row "RhymedThen" (Cond.code yX11_row cX11_row 2 (some .long)) 2 (some .long) := ⟨B.exec, B.bytes, hml, findClass_of_methodNamed B.named, atoms_spec (ws := uw_m (Cond.code yX11_row cX11_row 2 (some .long))) B.pre, B.returns, B.notSynchronized⟩
  have hx := hC.1
  have hb := hC.2.1
  show W p l e rx_rm s m _ below meth c s.heap [] 0 0 _ _
  refine en_t (Nat.le_of_ble_eq_true rfl) (fun ls hl => ?_)
  have hl : lv_has ls 2 [(0, .ref (ad 0)), (1, .int x1)] := hl
  refine lv_iload_n hx hb dX11_row_0 rfl (lv_at hl 1 rfl) ?_
  refine lv_aload_n hx hb dX11_row_1 rfl (lv_at hl 0 rfl) ?_
  refine rg_p hC hw 0 (Nat.le_of_ble_eq_true rfl) rfl fd_X11_1 wf_X11_19 (q := 3) rfl dX11_row_2 ?_
  refine rg_i hC hw 3 (Nat.le_of_ble_eq_true rfl) rfl fd_X4_1 wf_X11_224 dX11_row_5 ?_
  refine clc_Si hC hw (c_X11_isBelow rfl) hd_X11_isBelow cw_X11_101 (rest := []) hl.1 rfl (Nat.le_of_ble_eq_true rfl) ⟨Nat.le_of_ble_eq_true rfl, Nat.le_of_ble_eq_true rfl⟩ ⟨Nat.zero_le _, Nat.zero_le _⟩ rfl dX11_row_8 (fun H locs hw => ?_)
  refine lv_if_ne (tgt := 22) hx hb dX11_row_11 (by decide) (fun h1 => ?_) (fun h1 => ?_)
  · refine lv_aload_n hx hb dX11_row_22 rfl (lv_at hl 0 rfl) ?_
    refine rg_p hC hw 0 (Nat.le_of_ble_eq_true rfl) rfl fd_X11_1 wf_X11_19 (q := 3) rfl dX11_row_23 ?_
    refine rg_p hC hw 3 (Nat.le_of_ble_eq_true rfl) rfl fd_X4_0 wf_X11_457 (q := 4) rfl dX11_row_26 ?_
    refine lv_iload_n hx hb dX11_row_29 rfl (lv_at hl 1 rfl) ?_
    refine ra_l hC hw 4 (n := 24) (Nat.le_of_ble_eq_true rfl) rfl (hin h1) dX11_row_30 ?_
    refine vx_ret (W.widen (Nat.zero_le 1) (Nat.zero_le 6) ?_)
    exact W.lret hC.1 hC.2.1 hC.2.2.2.2.2.1 (fun t ht hW => ⟨⟨_, (), rfl, ⟨h1, rfl⟩, ct_Bof hw ht⟩, hw.2.2.2.1.F ht⟩) hw.2.2.2.1.2.2 dX11_row_31 (hlocks := hC.2.2.2.2.2.2)
  · refine vx_throw0 (own := "RhymedThen") (cls := rx_E) (names := rx_N) (ik := 454) (ic := 456) (A := fun q => z0 ≤ q) hx hb hst hC.2.2.2.1 (by decide +kernel) (by decide +kernel) (hC.t rx_wk) (hC.t rx_wi) (vx_hat (fun w hw => hC.t (rx_good w hw)) rx_bad (vx_c (va_Nw.use rfl hzz.1) (vx_c (va_Nw.use rfl hzz.2.2.2.1) (vx_c (va_Nw.use rfl hzz.2.2.2.2.1) (vx_c (va_Nw.use rfl hzz.2.2.2.2.2) vx_n))))) rx_ot hzz.2.1 hzz.2.2.1 hw.2.2.2.1 (hl.1.trans hC.2.2.1.symm) dX11_row_14 dX11_row_17 dX11_row_18 dX11_row_21 (fun x hx => (htab x hx).elim) (Nat.le_of_ble_eq_true rfl) (Nat.le_of_ble_eq_true rfl) (Nat.le_refl _) (Nat.le_refl _) hC.2.2.2.2.2.2 ?_ hw.2.2.2.1.2.2 (Nat.le_refl _) (Nat.le_refl _)
    intro t hal hsz hk
    refine ⟨(), (fun q => q h1), ⟨rfl, va_P.kept hw.2.1 (fun k x hx => hk x.1 ((hw.2.1 k x hx).lt)), hw.2.2.1⟩, Nat.le_trans hw.2.2.2.1.1 hsz, fun q h1 h2 => ?_⟩
    rw [hk q (Nat.lt_of_lt_of_le h1 hw.2.2.2.1.1)]
    exact hw.2.2.2.1.2.1 q h1 h2
