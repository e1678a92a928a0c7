def rx_o (cy : Nat → ClassId) (out : Nat) (fo : Nat → Int64) (Y : va_W) : va_W := (out, .inl (cy 1, 1, .inr (.inl fo))) :: Y
theorem rx_at {cy : Nat → ClassId} {ad : Nat → Nat} {u : Nat × Nat} {M : mm_M} {out : Nat} {fo : Nat → Int64} {Y : va_W} : (wd_ws cx_T cy ad u M (rx_o cy out fo Y))[72]? = some (out, .inl (cy 1, 1, .inr (.inl fo))) := by
  unfold wd_ws
  rw [List.getElem?_append_right (by rw [wd_rl]; exact Nat.le_of_ble_eq_true rfl), wd_rl, List.getElem?_append_right (by rw [wd_gl rfl]; exact Nat.le_of_ble_eq_true rfl), wd_gl rfl]
  rfl
theorem rx_set {cy : Nat → ClassId} {ad : Nat → Nat} {u : Nat × Nat} {M : mm_M} {out : Nat} {fo f1 : Nat → Int64} {Y : va_W} : (wd_ws cx_T cy ad u M (rx_o cy out fo Y)).set 72 (out, .inl (cy 1, 1, .inr (.inl f1))) = wd_ws cx_T cy ad u M (rx_o cy out f1 Y) := by
  unfold wd_ws
  rw [List.set_append_right _ _ (by rw [wd_rl]; exact Nat.le_of_ble_eq_true rfl), wd_rl, List.set_append_right _ _ (by rw [wd_gl rfl]; exact Nat.le_of_ble_eq_true rfl), wd_gl rfl]
  rfl
def rl_Q (D : va_G) (cy : Nat → ClassId) (z0 : Nat) (ad : Nat → Nat) (u : Nat × Nat) (M : mm_M) (out : Nat) (Y : va_W) (x : Int32) : Array Value → State → Outcome → State → Prop := va_Qi (fun (r : Int32) (f : Nat → Int64) => (rx_G M x ∧ r = 0 ∧ f 0 = M.2.1 4 x.toNatClampNeg) ∨ (¬ rx_G M x ∧ r = 1)) (fun (f : Nat → Int64) t => ct_B cx_T D cy z0 ad u M (rx_o cy out f Y) t) (fun q => z0 ≤ q)
def rl_X : String → State → State → Prop := vx_X (fun (_ : Unit) => False) (fun _ (_ : Unit) _ => False) (fun _ => False)
def rl_rm : Room := { frames := 8, cells := 1, slots := 6, locals := 110 }
def rl_w : Cond := Cond.codeWith yL_row cL_row 4 (some .int) [(0, 8, 11, 13)]
theorem wo_L_row : rl_w ∈ uw_U := uw_5 (List.mem_of_getElem? (i := 93) rfl) rfl
theorem cw_L_7 : cw_V "RhymedThenLaw" 7 RX11 yX11_row (Cond.code yX11_row cX11_row 2 (some .long)) := ⟨wo_X11_row, wm_L_7, wi_X11_row, ws_X11_row, wn_X11⟩
theorem cw_L_209 : cw_S "RhymedThenLaw" 209 yL_row rl_w := ⟨wo_L_row, wm_L_209, wt_L_row, wn_L⟩
theorem rx_pre {D : va_G} {cy : Nat → ClassId} {z0 : Nat} {ad : Nat → Nat} {u : Nat × Nat} {M : mm_M} {X : va_W} {s : State} {H : Heap} {locs : List Loc} (hw : wd_in cx_T D cy z0 ad u M X s H locs) (hz : rx_z z0 s s.heap) {as : List Value} : ∀ U : State, U.heap = H → s.WarmedH U.vm → va_Pc as (rx_U D cy z0 ad u M X) as.toArray U := fun U hU hW =>
  ⟨rfl, (ct_pre hw (as := as) U hU hW).2, by rw [hU]; exact rx_z.warm hW (hz.kept hw.2.2.2.1.2.1)⟩
set_option maxRecDepth 100000 in
set_option maxHeartbeats 4000000 in
theorem c_L_row {l : Launch} (hst : l.stackTraces = false) {D : va_G} {cy : Nat → ClassId} {z0 : Nat} {ad : Nat → Nat} {u : Nat × Nat} {Y : va_W} {out : Nat} {fo : Nat → Int64} {x1 : Int32} {M : mm_M} (hin : rx_G M x1 → ix_ok x1 24) : vx_Met l yL_row (uw_m rl_w) rl_rm (va_Pc [.ref (ad 0), .int x1, .ref out] (rx_U D cy z0 ad u M (rx_o cy out fo Y))) (rl_Q D cy z0 ad u M out Y x1) rl_X 1 6 (fun q => z0 ≤ q) := by
  refine vx_ofWH (cc := cL_row) (maxL := 4) (ret := some .int) (hh := [(0, 8, 11, 13)]) (by decide) rfl (fun p e s m args below meth c s₁ B hml hv => ?_)
  obtain ⟨rfl, ⟨hK, hP, hD, hz, hN⟩, hzz⟩ := hv
  have hw : wd_in cx_T D cy z0 ad u M (rx_o cy out fo Y) s s.heap [] := ⟨hK, hP, hD, va_S.rf, hz, hN⟩
  have hat := atoms_spec (ws := uw_m rl_w) B.pre
  have htab : c.exceptionTable.toList = tableOf [(0, 8, 11, 13)] := vx_table (x := yL_row) B (hat _ List.mem_cons_self)
  have hC : cx_C p s m ([.ref (ad 0), .int x1, .ref out] : List Value).toArray meth c cL_row "RhymedThenLaw" rl_w 4 (some .int) := ⟨B.exec, B.bytes, hml, findClass_of_methodNamed B.named, hat, B.returns, B.notSynchronized⟩
  have hx := hC.1
  have hb := hC.2.1
  show W p l e rl_rm s m _ below meth c s.heap [] 0 0 _ _
  refine en_t (Nat.le_of_ble_eq_true rfl) (fun ls hl => ?_)
  have hl : lv_has ls 4 [(0, .ref (ad 0)), (1, .int x1), (2, .ref out)] := hl
  refine lv_aload_n hx hb dL_row_0 rfl (lv_at hl 2 rfl) ?_
  refine lv_iconst (v := 0) hx hb dL_row_1 (by decide) ?_
  refine lv_aload_n hx hb dL_row_2 rfl (lv_at hl 0 rfl) ?_
  refine lv_iload_n hx hb dL_row_3 rfl (lv_at hl 1 rfl) ?_
  refine vx_calll (vx_runV (As := [.int x1]) (rest := [.int 0, .ref out]) hC.S (c_X11_row hst hin) (cwV 1 hC.2.2.2.2.1 (uw_gV cw_L_7.1 cw_L_7.2.1 cw_L_7.2.2.1 cw_L_7.2.2.2.1 cw_L_7.2.2.2.2) rfl rfl rfl hd_X11_row ⟨Nat.le_of_ble_eq_true rfl, Nat.le_of_ble_eq_true rfl⟩) ⟨rx_blind, va_recv hw.1 hw.2.1 (ci := 10) rfl (wd_ob (k := 0) (Nat.le_of_ble_eq_true rfl) rfl), rx_pre hw hzz⟩ rfl rfl hl.1 rfl (lv_room (Nat.le_of_ble_eq_true rfl)) dL_row_4 ⟨Nat.le_refl _, Nat.le_refl _⟩) hw.2.2.2.1 (fun q _ h => h) (fun q h => h) (fun q _ h => h) ?_ ?_
  · intro E ce q9 x t H1 locs1 ht hvm hp hB hsz hk hS hce hcv hcl
    obtain ⟨rfl, hB⟩ := hB
    have hw1 : wd_in cx_T D cy z0 ad u M (rx_o cy out fo Y) s H1 locs1 := ⟨hw.1, by rw [← ht]; exact hB.1, hB.2, hS, hw.2.2.2.2.1, hw.2.2.2.2.2⟩
    refine vx_catch (own := "RhymedThenLaw") (name := rx_E) hC.2.2.2.1 [] ⟨0, 8, 11, 13⟩ [] (by rw [htab]; rfl) (fun z hz => nomatch hz) (by decide) (by decide) (hC.t rx_wl) (va_Nw.use rfl hzz.1) hce hcv hcl ?_
    refine lv_astore_n (lv' := [(3, .ref q9), (0, .ref (ad 0)), (1, .int x1), (2, .ref out)]) hx hb dL_row_11 rfl hl (by decide) rfl (fun ls hl => ?_)
    refine lv_iconst (v := 1) hx hb dL_row_12 (by decide) ?_
    refine vx_ret ?_
    exact W.iret hC.1 hC.2.1 hC.2.2.2.2.2.1 (fun t ht hW => ⟨⟨_, fo, rfl, Or.inr ⟨hp, rfl⟩, ct_Bof hw1 ht⟩, hw1.2.2.2.1.F ht⟩) hw1.2.2.2.1.2.2 dL_row_13 (hlocks := hC.2.2.2.2.2.2)
  · intro r x t H1 locs1 ht hvm hp hB hsz hk hS
    obtain ⟨hg, rfl⟩ := hp
    have hw1 : wd_in cx_T D cy z0 ad u M (rx_o cy out fo Y) s H1 locs1 := ⟨hw.1, by rw [← ht]; exact hB.1, hB.2, hS, hw.2.2.2.2.1, hw.2.2.2.2.2⟩
    refine va_last hx hb hw1.1 hw1.2.1 hw1.2.2.1 hw1.2.2.2.1 72 1 rx_at rfl (show ix_ok 0 1 by decide) dL_row_7 (fun H2 locs2 hP2 hD2 hS2 => ?_)
    rw [rx_set] at hP2 hD2
    have hw2 : wd_in cx_T D cy z0 ad u M (rx_o cy out _ Y) s H2 locs2 := ⟨hw.1, hP2, hD2, hS2, hw.2.2.2.2.1, hw.2.2.2.2.2⟩
    refine lv_goto (tgt := 14) hx hb dL_row_8 (by decide) ?_
    refine lv_iconst (v := 0) hx hb dL_row_14 (by decide) ?_
    refine vx_ret ?_
    exact W.iret hC.1 hC.2.1 hC.2.2.2.2.2.1 (fun t ht hW => ⟨⟨_, _, rfl, Or.inl ⟨hg, rfl, rfl⟩, ct_Bof hw2 ht⟩, hw2.2.2.2.1.F ht⟩) hw2.2.2.2.1.2.2 dL_row_15 (hlocks := hC.2.2.2.2.2.2)
