section LAW
variable {p : Program} {l : Launch} {e : Env} {s : State} {m : MethodId} {below : List Frame} {meth : Method} {c : Code} {b L k : Nat} {xs : Nat → Int32} {D : va_G} {cy : Nat → ClassId} {ad ad2 : Nat → Nat} {u u2 : Nat × Nat} {Mc Mr : mm_M} {out : Nat} {fo : Nat → Int64} {H : Heap} {locs : List Loc} {ls : Array Slot}
set_option maxRecDepth 100000 in
set_option maxHeartbeats 4000000 in
theorem lc_sign (hF : lp_F p s m meth c b L xs) (hk : 7 * k + 7 ≤ L) (hG : lp_Go p l e s m below meth c b D cy k) (hr : rl_ Mc Mr) (hw : lp_c D cy s ad u Mc ad2 u2 Mr out fo H locs) (hl : lv_has ls 8 (lp_ls b k ad ad2 out)) : lp_W p l e s m below meth c b Mc k H locs (F0 m 240 ls []) := by
  obtain ⟨r, Mc1, Mr1, ec, er, hr1⟩ := m_sign hr (xs (7 * k + 1))
  have hmo : Mc.2.2 ≤ Mc1.2.2 := mo_X11_sign ec
  have hcap := lp_cap hr1
  have hL := hF.2.2.2
  have hx := hF.1.1
  have hb := hF.1.2.1
  unfold lp_W
  refine lv_aload_n hx hb dL_law_240 rfl (lv_at hl 1 rfl) ?_
  refine lp_a hF hw.2.2.2.1 hk hl 1 (by decide) (by decide) dL_law_241 dL_law_242 dL_law_244 dL_law_245 dL_law_246 ?_
  refine clc_Vi hF.1 hw (c_X11_sign ec) hd_X11_sign cw_L_19 (Nat.le_of_ble_eq_true rfl) rfl rfl (rest := []) hl.1 rfl (Nat.le_of_ble_eq_true rfl) ⟨(Nat.le_of_ble_eq_true rfl), (Nat.le_of_ble_eq_true rfl)⟩ ⟨lp_n3 hcap hmo hk hL, lp_n4 hcap hmo hk hL⟩ rfl dL_law_247 (fun H locs hw => ?_)
  have hw := lp_cr hw
  refine lv_aload_n hx hb dL_law_250 rfl (lv_at hl 2 rfl) ?_
  refine lp_a hF hw.2.2.2.1 hk hl 1 (by decide) (by decide) dL_law_251 dL_law_252 dL_law_254 dL_law_255 dL_law_256 ?_
  refine clc_Vi hF.1 hw (c_X12_sign er) hd_X12_sign cw_L_23 (Nat.le_of_ble_eq_true rfl) rfl rfl (rest := [.int _]) hl.1 rfl (Nat.le_of_ble_eq_true rfl) ⟨(Nat.le_of_ble_eq_true rfl), (Nat.le_of_ble_eq_true rfl)⟩ ⟨lp_n3 hcap hmo hk hL, lp_n4 hcap hmo hk hL⟩ rfl dL_law_257 (fun H locs hw => ?_)
  have hw := lp_rc hw
  refine lv_icmp_eq (tgt := 2184) hx hb dL_law_260 (by decide) (fun _ => ?_) (fun h => absurd rfl h)
  exact lp_end0 hG hr1 hw hl hmo
set_option maxRecDepth 100000 in
set_option maxHeartbeats 4000000 in
theorem lc_law (hF : lp_F p s m meth c b L xs) (hk : 7 * k + 7 ≤ L) (hG : lp_Go p l e s m below meth c b D cy k) (hr : rl_ Mc Mr) (hw : lp_c D cy s ad u Mc ad2 u2 Mr out fo H locs) (hl : lv_has ls 8 (lp_ls b k ad ad2 out)) : lp_W p l e s m below meth c b Mc k H locs (F0 m 340 ls []) := by
  obtain ⟨r, Mc1, Mr1, ec, er, hr1⟩ := m_law hr (xs (7 * k + 1)) (xs (7 * k + 2)) (xs (7 * k + 3))
  have hmo : Mc.2.2 ≤ Mc1.2.2 := mo_X11_law ec
  have hcap := lp_cap hr1
  have hL := hF.2.2.2
  have hx := hF.1.1
  have hb := hF.1.2.1
  unfold lp_W
  refine lv_aload_n hx hb dL_law_340 rfl (lv_at hl 1 rfl) ?_
  refine lp_a hF hw.2.2.2.1 hk hl 1 (by decide) (by decide) dL_law_341 dL_law_342 dL_law_344 dL_law_345 dL_law_346 ?_
  refine lp_a hF hw.2.2.2.1 hk hl 2 (by decide) (by decide) dL_law_347 dL_law_348 dL_law_350 dL_law_351 dL_law_352 ?_
  refine lp_a hF hw.2.2.2.1 hk hl 3 (by decide) (by decide) dL_law_353 dL_law_354 dL_law_356 dL_law_357 dL_law_358 ?_
  refine clc_Vi hF.1 hw (c_X11_law ec) hd_X11_law cw_L_39 (Nat.le_of_ble_eq_true rfl) rfl rfl (rest := []) hl.1 rfl (Nat.le_of_ble_eq_true rfl) ⟨(Nat.le_of_ble_eq_true rfl), (Nat.le_of_ble_eq_true rfl)⟩ ⟨lp_n3 hcap hmo hk hL, lp_n4 hcap hmo hk hL⟩ rfl dL_law_359 (fun H locs hw => ?_)
  have hw := lp_cr hw
  refine lv_aload_n hx hb dL_law_362 rfl (lv_at hl 2 rfl) ?_
  refine lp_a hF hw.2.2.2.1 hk hl 1 (by decide) (by decide) dL_law_363 dL_law_364 dL_law_366 dL_law_367 dL_law_368 ?_
  refine lp_a hF hw.2.2.2.1 hk hl 2 (by decide) (by decide) dL_law_369 dL_law_370 dL_law_372 dL_law_373 dL_law_374 ?_
  refine lp_a hF hw.2.2.2.1 hk hl 3 (by decide) (by decide) dL_law_375 dL_law_376 dL_law_378 dL_law_379 dL_law_380 ?_
  refine clc_Vi hF.1 hw (c_X12_law er) hd_X12_law cw_L_43 (Nat.le_of_ble_eq_true rfl) rfl rfl (rest := [.int _]) hl.1 rfl (Nat.le_of_ble_eq_true rfl) ⟨(Nat.le_of_ble_eq_true rfl), (Nat.le_of_ble_eq_true rfl)⟩ ⟨lp_n3 hcap hmo hk hL, lp_n4 hcap hmo hk hL⟩ rfl dL_law_381 (fun H locs hw => ?_)
  have hw := lp_rc hw
  refine lv_icmp_eq (tgt := 2184) hx hb dL_law_384 (by decide) (fun _ => ?_) (fun h => absurd rfl h)
  exact lp_end0 hG hr1 hw hl hmo
set_option maxRecDepth 100000 in
set_option maxHeartbeats 4000000 in
theorem lc_changes (hF : lp_F p s m meth c b L xs) (hk : 7 * k + 7 ≤ L) (hG : lp_Go p l e s m below meth c b D cy k) (hr : rl_ Mc Mr) (hw : lp_c D cy s ad u Mc ad2 u2 Mr out fo H locs) (hl : lv_has ls 8 (lp_ls b k ad ad2 out)) : lp_W p l e s m below meth c b Mc k H locs (F0 m 548 ls []) := by
  obtain ⟨r, Mc1, Mr1, ec, er, hr1⟩ := m_changes hr (xs (7 * k + 1)) (xs (7 * k + 2)) (xs (7 * k + 3))
  have hmo : Mc.2.2 ≤ Mc1.2.2 := mo_X11_changes ec
  have hcap := lp_cap hr1
  have hL := hF.2.2.2
  have hx := hF.1.1
  have hb := hF.1.2.1
  unfold lp_W
  refine lv_aload_n hx hb dL_law_548 rfl (lv_at hl 1 rfl) ?_
  refine lp_a hF hw.2.2.2.1 hk hl 1 (by decide) (by decide) dL_law_549 dL_law_550 dL_law_552 dL_law_553 dL_law_554 ?_
  refine lp_a hF hw.2.2.2.1 hk hl 2 (by decide) (by decide) dL_law_555 dL_law_556 dL_law_558 dL_law_559 dL_law_560 ?_
  refine lp_a hF hw.2.2.2.1 hk hl 3 (by decide) (by decide) dL_law_561 dL_law_562 dL_law_564 dL_law_565 dL_law_566 ?_
  refine cla_Vi hF.1 hw (c_X11_changes ec) hd_X11_changes cw_L_57 (Nat.le_of_ble_eq_true rfl) rfl rfl (rest := []) hl.1 rfl (Nat.le_of_ble_eq_true rfl) ⟨(Nat.le_of_ble_eq_true rfl), (Nat.le_of_ble_eq_true rfl)⟩ ⟨lp_n1 hcap hmo hk hL, lp_n2 hcap hmo hk hL⟩ rfl dL_law_567 (fun u H locs hw => ?_)
  have hw := lp_cr hw
  refine lv_aload_n hx hb dL_law_570 rfl (lv_at hl 2 rfl) ?_
  refine lp_a hF hw.2.2.2.1 hk hl 1 (by decide) (by decide) dL_law_571 dL_law_572 dL_law_574 dL_law_575 dL_law_576 ?_
  refine lp_a hF hw.2.2.2.1 hk hl 2 (by decide) (by decide) dL_law_577 dL_law_578 dL_law_580 dL_law_581 dL_law_582 ?_
  refine lp_a hF hw.2.2.2.1 hk hl 3 (by decide) (by decide) dL_law_583 dL_law_584 dL_law_586 dL_law_587 dL_law_588 ?_
  refine clc_Vi hF.1 hw (c_X12_changes er) hd_X12_changes cw_L_60 (Nat.le_of_ble_eq_true rfl) rfl rfl (rest := [.int _]) hl.1 rfl (Nat.le_of_ble_eq_true rfl) ⟨(Nat.le_of_ble_eq_true rfl), (Nat.le_of_ble_eq_true rfl)⟩ ⟨lp_n1 hcap hmo hk hL, lp_n2 hcap hmo hk hL⟩ rfl dL_law_589 (fun H locs hw => ?_)
  have hw := lp_rc hw
  refine lv_icmp_eq (tgt := 2184) hx hb dL_law_592 (by decide) (fun _ => ?_) (fun h => absurd rfl h)
  exact lp_end1 hG hr1 hw hl hmo
set_option maxRecDepth 100000 in
set_option maxHeartbeats 4000000 in
theorem lc_chance (hF : lp_F p s m meth c b L xs) (hk : 7 * k + 7 ≤ L) (hG : lp_Go p l e s m below meth c b D cy k) (hr : rl_ Mc Mr) (hw : lp_c D cy s ad u Mc ad2 u2 Mr out fo H locs) (hl : lv_has ls 8 (lp_ls b k ad ad2 out)) : lp_W p l e s m below meth c b Mc k H locs (F0 m 792 ls []) := by
  obtain ⟨r, Mc1, Mr1, ec, er, hr1⟩ := m_chance hr (xs (7 * k + 1)) (xs (7 * k + 2)) (xs (7 * k + 3))
  have hmo : Mc.2.2 ≤ Mc1.2.2 := mo_X11_chance ec
  have hcap := lp_cap hr1
  have hL := hF.2.2.2
  have hx := hF.1.1
  have hb := hF.1.2.1
  unfold lp_W
  refine lv_aload_n hx hb dL_law_792 rfl (lv_at hl 1 rfl) ?_
  refine lp_a hF hw.2.2.2.1 hk hl 1 (by decide) (by decide) dL_law_793 dL_law_794 dL_law_796 dL_law_797 dL_law_798 ?_
  refine lp_a hF hw.2.2.2.1 hk hl 2 (by decide) (by decide) dL_law_799 dL_law_800 dL_law_802 dL_law_803 dL_law_804 ?_
  refine lp_a hF hw.2.2.2.1 hk hl 3 (by decide) (by decide) dL_law_805 dL_law_806 dL_law_808 dL_law_809 dL_law_810 ?_
  refine cla_Vi hF.1 hw (c_X11_chance ec) hd_X11_chance cw_L_74 (Nat.le_of_ble_eq_true rfl) rfl rfl (rest := []) hl.1 rfl (Nat.le_of_ble_eq_true rfl) ⟨(Nat.le_of_ble_eq_true rfl), (Nat.le_of_ble_eq_true rfl)⟩ ⟨lp_n1 hcap hmo hk hL, lp_n2 hcap hmo hk hL⟩ rfl dL_law_811 (fun u H locs hw => ?_)
  have hw := lp_cr hw
  refine lv_aload_n hx hb dL_law_814 rfl (lv_at hl 2 rfl) ?_
  refine lp_a hF hw.2.2.2.1 hk hl 1 (by decide) (by decide) dL_law_815 dL_law_816 dL_law_818 dL_law_819 dL_law_820 ?_
  refine lp_a hF hw.2.2.2.1 hk hl 2 (by decide) (by decide) dL_law_821 dL_law_822 dL_law_824 dL_law_825 dL_law_826 ?_
  refine lp_a hF hw.2.2.2.1 hk hl 3 (by decide) (by decide) dL_law_827 dL_law_828 dL_law_830 dL_law_831 dL_law_832 ?_
  refine clc_Vi hF.1 hw (c_X12_chance er) hd_X12_chance cw_L_77 (Nat.le_of_ble_eq_true rfl) rfl rfl (rest := [.int _]) hl.1 rfl (Nat.le_of_ble_eq_true rfl) ⟨(Nat.le_of_ble_eq_true rfl), (Nat.le_of_ble_eq_true rfl)⟩ ⟨lp_n1 hcap hmo hk hL, lp_n2 hcap hmo hk hL⟩ rfl dL_law_833 (fun H locs hw => ?_)
  have hw := lp_rc hw
  refine lv_icmp_eq (tgt := 2184) hx hb dL_law_836 (by decide) (fun _ => ?_) (fun h => absurd rfl h)
  exact lp_end1 hG hr1 hw hl hmo
set_option maxRecDepth 100000 in
set_option maxHeartbeats 4000000 in
theorem lc_holds (hF : lp_F p s m meth c b L xs) (hk : 7 * k + 7 ≤ L) (hG : lp_Go p l e s m below meth c b D cy k) (hr : rl_ Mc Mr) (hw : lp_c D cy s ad u Mc ad2 u2 Mr out fo H locs) (hl : lv_has ls 8 (lp_ls b k ad ad2 out)) : lp_W p l e s m below meth c b Mc k H locs (F0 m 1091 ls []) := by
  obtain ⟨r, Mc1, Mr1, ec, er, hr1⟩ := m_holds hr (xs (7 * k + 1)) (xs (7 * k + 2))
  have hmo : Mc.2.2 ≤ Mc1.2.2 := mo_X11_holds ec
  have hcap := lp_cap hr1
  have hL := hF.2.2.2
  have hx := hF.1.1
  have hb := hF.1.2.1
  unfold lp_W
  refine lv_aload_n hx hb dL_law_1091 rfl (lv_at hl 1 rfl) ?_
  refine lp_a hF hw.2.2.2.1 hk hl 1 (by decide) (by decide) dL_law_1092 dL_law_1093 dL_law_1095 dL_law_1096 dL_law_1097 ?_
  refine lp_a hF hw.2.2.2.1 hk hl 2 (by decide) (by decide) dL_law_1098 dL_law_1099 dL_law_1101 dL_law_1102 dL_law_1103 ?_
  refine cla_Vi hF.1 hw (c_X11_holds ec) hd_X11_holds cw_L_97 (Nat.le_of_ble_eq_true rfl) rfl rfl (rest := []) hl.1 rfl (Nat.le_of_ble_eq_true rfl) ⟨(Nat.le_of_ble_eq_true rfl), (Nat.le_of_ble_eq_true rfl)⟩ ⟨lp_n1 hcap hmo hk hL, lp_n2 hcap hmo hk hL⟩ rfl dL_law_1104 (fun u H locs hw => ?_)
  have hw := lp_cr hw
  refine lv_aload_n hx hb dL_law_1107 rfl (lv_at hl 2 rfl) ?_
  refine lp_a hF hw.2.2.2.1 hk hl 1 (by decide) (by decide) dL_law_1108 dL_law_1109 dL_law_1111 dL_law_1112 dL_law_1113 ?_
  refine lp_a hF hw.2.2.2.1 hk hl 2 (by decide) (by decide) dL_law_1114 dL_law_1115 dL_law_1117 dL_law_1118 dL_law_1119 ?_
  refine clc_Vi hF.1 hw (c_X12_holds er) hd_X12_holds cw_L_100 (Nat.le_of_ble_eq_true rfl) rfl rfl (rest := [.int _]) hl.1 rfl (Nat.le_of_ble_eq_true rfl) ⟨(Nat.le_of_ble_eq_true rfl), (Nat.le_of_ble_eq_true rfl)⟩ ⟨lp_n1 hcap hmo hk hL, lp_n2 hcap hmo hk hL⟩ rfl dL_law_1120 (fun H locs hw => ?_)
  have hw := lp_rc hw
  refine lv_icmp_eq (tgt := 2184) hx hb dL_law_1123 (by decide) (fun _ => ?_) (fun h => absurd rfl h)
  exact lp_end1 hG hr1 hw hl hmo
set_option maxRecDepth 100000 in
set_option maxHeartbeats 4000000 in
theorem lc_wrong (hF : lp_F p s m meth c b L xs) (hk : 7 * k + 7 ≤ L) (hG : lp_Go p l e s m below meth c b D cy k) (hr : rl_ Mc Mr) (hw : lp_c D cy s ad u Mc ad2 u2 Mr out fo H locs) (hl : lv_has ls 8 (lp_ls b k ad ad2 out)) : lp_W p l e s m below meth c b Mc k H locs (F0 m 1215 ls []) := by
  obtain ⟨r, Mc1, Mr1, ec, er, hr1⟩ := m_wrong hr 
  have hmo : Mc.2.2 ≤ Mc1.2.2 := mo_X11_wrong ec
  have hcap := lp_cap hr1
  have hL := hF.2.2.2
  have hx := hF.1.1
  have hb := hF.1.2.1
  unfold lp_W
  refine lv_aload_n hx hb dL_law_1215 rfl (lv_at hl 1 rfl) ?_
  refine cla_Vi hF.1 hw (c_X11_wrong ec) hd_X11_wrong cw_L_113 (Nat.le_of_ble_eq_true rfl) rfl rfl (rest := []) hl.1 rfl (Nat.le_of_ble_eq_true rfl) ⟨(Nat.le_of_ble_eq_true rfl), (Nat.le_of_ble_eq_true rfl)⟩ ⟨lp_n1 hcap hmo hk hL, lp_n2 hcap hmo hk hL⟩ rfl dL_law_1216 (fun u H locs hw => ?_)
  have hw := lp_cr hw
  refine lv_aload_n hx hb dL_law_1219 rfl (lv_at hl 2 rfl) ?_
  refine clc_Vi hF.1 hw (c_X12_wrong er) hd_X12_wrong cw_L_116 (Nat.le_of_ble_eq_true rfl) rfl rfl (rest := [.int _]) hl.1 rfl (Nat.le_of_ble_eq_true rfl) ⟨(Nat.le_of_ble_eq_true rfl), (Nat.le_of_ble_eq_true rfl)⟩ ⟨lp_n1 hcap hmo hk hL, lp_n2 hcap hmo hk hL⟩ rfl dL_law_1220 (fun H locs hw => ?_)
  have hw := lp_rc hw
  refine lv_icmp_eq (tgt := 2184) hx hb dL_law_1223 (by decide) (fun _ => ?_) (fun h => absurd rfl h)
  exact lp_end1 hG hr1 hw hl hmo
set_option maxRecDepth 100000 in
set_option maxHeartbeats 4000000 in
theorem lc_least (hF : lp_F p s m meth c b L xs) (hk : 7 * k + 7 ≤ L) (hG : lp_Go p l e s m below meth c b D cy k) (hr : rl_ Mc Mr) (hw : lp_c D cy s ad u Mc ad2 u2 Mr out fo H locs) (hl : lv_has ls 8 (lp_ls b k ad ad2 out)) : lp_W p l e s m below meth c b Mc k H locs (F0 m 1327 ls []) := by
  obtain ⟨r, Mc1, Mr1, ec, er, hr1⟩ := m_least hr 
  have hmo : Mc.2.2 ≤ Mc1.2.2 := mo_X11_least ec
  have hcap := lp_cap hr1
  have hL := hF.2.2.2
  have hx := hF.1.1
  have hb := hF.1.2.1
  unfold lp_W
  refine lv_aload_n hx hb dL_law_1327 rfl (lv_at hl 1 rfl) ?_
  refine cla_Vi hF.1 hw (c_X11_least ec) hd_X11_least cw_L_129 (Nat.le_of_ble_eq_true rfl) rfl rfl (rest := []) hl.1 rfl (Nat.le_of_ble_eq_true rfl) ⟨(Nat.le_of_ble_eq_true rfl), (Nat.le_of_ble_eq_true rfl)⟩ ⟨lp_n1 hcap hmo hk hL, lp_n2 hcap hmo hk hL⟩ rfl dL_law_1328 (fun u H locs hw => ?_)
  have hw := lp_cr hw
  refine lv_aload_n hx hb dL_law_1331 rfl (lv_at hl 2 rfl) ?_
  refine clc_Vi hF.1 hw (c_X12_least er) hd_X12_least cw_L_132 (Nat.le_of_ble_eq_true rfl) rfl rfl (rest := [.int _]) hl.1 rfl (Nat.le_of_ble_eq_true rfl) ⟨(Nat.le_of_ble_eq_true rfl), (Nat.le_of_ble_eq_true rfl)⟩ ⟨lp_n1 hcap hmo hk hL, lp_n2 hcap hmo hk hL⟩ rfl dL_law_1332 (fun H locs hw => ?_)
  have hw := lp_rc hw
  refine lv_icmp_eq (tgt := 2184) hx hb dL_law_1335 (by decide) (fun _ => ?_) (fun h => absurd rfl h)
  exact lp_end1 hG hr1 hw hl hmo
set_option maxRecDepth 100000 in
set_option maxHeartbeats 4000000 in
theorem lc_likely (hF : lp_F p s m meth c b L xs) (hk : 7 * k + 7 ≤ L) (hG : lp_Go p l e s m below meth c b D cy k) (hr : rl_ Mc Mr) (hw : lp_c D cy s ad u Mc ad2 u2 Mr out fo H locs) (hl : lv_has ls 8 (lp_ls b k ad ad2 out)) : lp_W p l e s m below meth c b Mc k H locs (F0 m 1463 ls []) := by
  obtain ⟨r, Mc1, Mr1, ec, er, hr1⟩ := m_likely hr 
  have hmo : Mc.2.2 ≤ Mc1.2.2 := mo_X11_likely ec
  have hcap := lp_cap hr1
  have hL := hF.2.2.2
  have hx := hF.1.1
  have hb := hF.1.2.1
  unfold lp_W
  refine lv_aload_n hx hb dL_law_1463 rfl (lv_at hl 1 rfl) ?_
  refine cla_Vi hF.1 hw (c_X11_likely ec) hd_X11_likely cw_L_145 (Nat.le_of_ble_eq_true rfl) rfl rfl (rest := []) hl.1 rfl (Nat.le_of_ble_eq_true rfl) ⟨(Nat.le_of_ble_eq_true rfl), (Nat.le_of_ble_eq_true rfl)⟩ ⟨lp_n1 hcap hmo hk hL, lp_n2 hcap hmo hk hL⟩ rfl dL_law_1464 (fun u H locs hw => ?_)
  have hw := lp_cr hw
  refine lv_aload_n hx hb dL_law_1467 rfl (lv_at hl 2 rfl) ?_
  refine clc_Vi hF.1 hw (c_X12_likely er) hd_X12_likely cw_L_148 (Nat.le_of_ble_eq_true rfl) rfl rfl (rest := [.int _]) hl.1 rfl (Nat.le_of_ble_eq_true rfl) ⟨(Nat.le_of_ble_eq_true rfl), (Nat.le_of_ble_eq_true rfl)⟩ ⟨lp_n1 hcap hmo hk hL, lp_n2 hcap hmo hk hL⟩ rfl dL_law_1468 (fun H locs hw => ?_)
  have hw := lp_rc hw
  refine lv_icmp_eq (tgt := 2184) hx hb dL_law_1471 (by decide) (fun _ => ?_) (fun h => absurd rfl h)
  exact lp_end1 hG hr1 hw hl hmo
set_option maxRecDepth 100000 in
set_option maxHeartbeats 4000000 in
theorem lc_ahead (hF : lp_F p s m meth c b L xs) (hk : 7 * k + 7 ≤ L) (hG : lp_Go p l e s m below meth c b D cy k) (hr : rl_ Mc Mr) (hw : lp_c D cy s ad u Mc ad2 u2 Mr out fo H locs) (hl : lv_has ls 8 (lp_ls b k ad ad2 out)) : lp_W p l e s m below meth c b Mc k H locs (F0 m 1563 ls []) := by
  obtain ⟨r, Mc1, Mr1, ec, er, hr1⟩ := m_ahead hr (xs (7 * k + 1)) (xs (7 * k + 2))
  have hmo : Mc.2.2 ≤ Mc1.2.2 := mo_X11_ahead ec
  have hcap := lp_cap hr1
  have hL := hF.2.2.2
  have hx := hF.1.1
  have hb := hF.1.2.1
  unfold lp_W
  refine lv_aload_n hx hb dL_law_1563 rfl (lv_at hl 1 rfl) ?_
  refine lp_a hF hw.2.2.2.1 hk hl 1 (by decide) (by decide) dL_law_1564 dL_law_1565 dL_law_1567 dL_law_1568 dL_law_1569 ?_
  refine lp_a hF hw.2.2.2.1 hk hl 2 (by decide) (by decide) dL_law_1570 dL_law_1571 dL_law_1573 dL_law_1574 dL_law_1575 ?_
  refine cla_Vi hF.1 hw (c_X11_ahead ec) hd_X11_ahead cw_L_161 (Nat.le_of_ble_eq_true rfl) rfl rfl (rest := []) hl.1 rfl (Nat.le_of_ble_eq_true rfl) ⟨(Nat.le_of_ble_eq_true rfl), (Nat.le_of_ble_eq_true rfl)⟩ ⟨lp_n1 hcap hmo hk hL, lp_n2 hcap hmo hk hL⟩ rfl dL_law_1576 (fun u H locs hw => ?_)
  have hw := lp_cr hw
  refine lv_aload_n hx hb dL_law_1579 rfl (lv_at hl 2 rfl) ?_
  refine lp_a hF hw.2.2.2.1 hk hl 1 (by decide) (by decide) dL_law_1580 dL_law_1581 dL_law_1583 dL_law_1584 dL_law_1585 ?_
  refine lp_a hF hw.2.2.2.1 hk hl 2 (by decide) (by decide) dL_law_1586 dL_law_1587 dL_law_1589 dL_law_1590 dL_law_1591 ?_
  refine clc_Vi hF.1 hw (c_X12_ahead er) hd_X12_ahead cw_L_164 (Nat.le_of_ble_eq_true rfl) rfl rfl (rest := [.int _]) hl.1 rfl (Nat.le_of_ble_eq_true rfl) ⟨(Nat.le_of_ble_eq_true rfl), (Nat.le_of_ble_eq_true rfl)⟩ ⟨lp_n1 hcap hmo hk hL, lp_n2 hcap hmo hk hL⟩ rfl dL_law_1592 (fun H locs hw => ?_)
  have hw := lp_rc hw
  refine lv_icmp_eq (tgt := 2184) hx hb dL_law_1595 (by decide) (fun _ => ?_) (fun h => absurd rfl h)
  exact lp_end1 hG hr1 hw hl hmo
set_option maxRecDepth 100000 in
set_option maxHeartbeats 4000000 in
theorem lc_settled (hF : lp_F p s m meth c b L xs) (hk : 7 * k + 7 ≤ L) (hG : lp_Go p l e s m below meth c b D cy k) (hr : rl_ Mc Mr) (hw : lp_c D cy s ad u Mc ad2 u2 Mr out fo H locs) (hl : lv_has ls 8 (lp_ls b k ad ad2 out)) : lp_W p l e s m below meth c b Mc k H locs (F0 m 1797 ls []) := by
  obtain ⟨r, Mc1, Mr1, ec, er, hr1⟩ := m_settled hr (xs (7 * k + 1)) (xs (7 * k + 2))
  have hmo : Mc.2.2 ≤ Mc1.2.2 := mo_X11_settled ec
  have hcap := lp_cap hr1
  have hL := hF.2.2.2
  have hx := hF.1.1
  have hb := hF.1.2.1
  unfold lp_W
  refine lv_aload_n hx hb dL_law_1797 rfl (lv_at hl 1 rfl) ?_
  refine lp_a hF hw.2.2.2.1 hk hl 1 (by decide) (by decide) dL_law_1798 dL_law_1799 dL_law_1801 dL_law_1802 dL_law_1803 ?_
  refine lp_a hF hw.2.2.2.1 hk hl 2 (by decide) (by decide) dL_law_1804 dL_law_1805 dL_law_1807 dL_law_1808 dL_law_1809 ?_
  refine cla_Vi hF.1 hw (c_X11_settled ec) hd_X11_settled cw_L_177 (Nat.le_of_ble_eq_true rfl) rfl rfl (rest := []) hl.1 rfl (Nat.le_of_ble_eq_true rfl) ⟨(Nat.le_of_ble_eq_true rfl), (Nat.le_of_ble_eq_true rfl)⟩ ⟨lp_n1 hcap hmo hk hL, lp_n2 hcap hmo hk hL⟩ rfl dL_law_1810 (fun u H locs hw => ?_)
  have hw := lp_cr hw
  refine lv_aload_n hx hb dL_law_1813 rfl (lv_at hl 2 rfl) ?_
  refine lp_a hF hw.2.2.2.1 hk hl 1 (by decide) (by decide) dL_law_1814 dL_law_1815 dL_law_1817 dL_law_1818 dL_law_1819 ?_
  refine lp_a hF hw.2.2.2.1 hk hl 2 (by decide) (by decide) dL_law_1820 dL_law_1821 dL_law_1823 dL_law_1824 dL_law_1825 ?_
  refine clc_Vi hF.1 hw (c_X12_settled er) hd_X12_settled cw_L_180 (Nat.le_of_ble_eq_true rfl) rfl rfl (rest := [.int _]) hl.1 rfl (Nat.le_of_ble_eq_true rfl) ⟨(Nat.le_of_ble_eq_true rfl), (Nat.le_of_ble_eq_true rfl)⟩ ⟨lp_n1 hcap hmo hk hL, lp_n2 hcap hmo hk hL⟩ rfl dL_law_1826 (fun H locs hw => ?_)
  have hw := lp_rc hw
  refine lv_icmp_eq (tgt := 2184) hx hb dL_law_1829 (by decide) (fun _ => ?_) (fun h => absurd rfl h)
  exact lp_end1 hG hr1 hw hl hmo
set_option maxRecDepth 100000 in
set_option maxHeartbeats 4000000 in
theorem lc_keep (hF : lp_F p s m meth c b L xs) (hk : 7 * k + 7 ≤ L) (hG : lp_Go p l e s m below meth c b D cy k) (hr : rl_ Mc Mr) (hw : lp_c D cy s ad u Mc ad2 u2 Mr out fo H locs) (hl : lv_has ls 8 (lp_ls b k ad ad2 out)) : lp_W p l e s m below meth c b Mc k H locs (F0 m 2017 ls []) := by
  obtain ⟨r, Mc1, Mr1, ec, er, hr1⟩ := m_keep hr (xs (7 * k + 1))
  have hmo : Mc.2.2 ≤ Mc1.2.2 := mo_X11_keep ec
  have hcap := lp_cap hr1
  have hL := hF.2.2.2
  have hx := hF.1.1
  have hb := hF.1.2.1
  unfold lp_W
  refine lv_aload_n hx hb dL_law_2017 rfl (lv_at hl 1 rfl) ?_
  refine lp_a hF hw.2.2.2.1 hk hl 1 (by decide) (by decide) dL_law_2018 dL_law_2019 dL_law_2021 dL_law_2022 dL_law_2023 ?_
  refine clc_Vi hF.1 hw (c_X11_keep ec) hd_X11_keep cw_L_193 (Nat.le_of_ble_eq_true rfl) rfl rfl (rest := []) hl.1 rfl (Nat.le_of_ble_eq_true rfl) ⟨(Nat.le_of_ble_eq_true rfl), (Nat.le_of_ble_eq_true rfl)⟩ ⟨lp_n3 hcap hmo hk hL, lp_n4 hcap hmo hk hL⟩ rfl dL_law_2024 (fun H locs hw => ?_)
  have hw := lp_cr hw
  refine lv_aload_n hx hb dL_law_2027 rfl (lv_at hl 2 rfl) ?_
  refine lp_a hF hw.2.2.2.1 hk hl 1 (by decide) (by decide) dL_law_2028 dL_law_2029 dL_law_2031 dL_law_2032 dL_law_2033 ?_
  refine clc_Vi hF.1 hw (c_X12_keep er) hd_X12_keep cw_L_196 (Nat.le_of_ble_eq_true rfl) rfl rfl (rest := [.int _]) hl.1 rfl (Nat.le_of_ble_eq_true rfl) ⟨(Nat.le_of_ble_eq_true rfl), (Nat.le_of_ble_eq_true rfl)⟩ ⟨lp_n3 hcap hmo hk hL, lp_n4 hcap hmo hk hL⟩ rfl dL_law_2034 (fun H locs hw => ?_)
  have hw := lp_rc hw
  refine lv_icmp_eq (tgt := 2184) hx hb dL_law_2037 (by decide) (fun _ => ?_) (fun h => absurd rfl h)
  exact lp_end0 hG hr1 hw hl hmo
end LAW
