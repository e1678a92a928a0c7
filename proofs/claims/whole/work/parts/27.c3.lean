section LAW
variable {p : Program} {l : Launch} {e : Env} {s : State} {m : MethodId} {below : List Frame} {meth : Method} {c : Code} {b L k : Nat} {xs : Nat → Int32} {D : va_G} {cy : Nat → ClassId} {ad ad2 : Nat → Nat} {u u2 : Nat × Nat} {Mc Mr : mm_M} {out : Nat} {fo : Nat → Int64} {H : Heap} {locs : List Loc} {ls : Array Slot}
set_option maxRecDepth 100000 in
set_option maxHeartbeats 4000000 in
theorem lc_word (hF : lp_F p s m meth c b L xs) (hk : 7 * k + 7 ≤ L) (hG : lp_Go p l e s m below meth c b D cy k) (hr : rl_ Mc Mr) (hw : lp_c D cy s ad u Mc ad2 u2 Mr out fo H locs) (hl : lv_has ls 8 (lp_ls b k ad ad2 out)) : lp_W p l e s m below meth c b Mc k H locs (F0 m 327 ls []) := by
  obtain ⟨r, Mc1, Mr1, ec, er, hr1⟩ := m_word hr 
  have hmo : Mc.2.2 ≤ Mc1.2.2 := mo_X11_word ec
  have hcap := lp_cap hr1
  have hL := hF.2.2.2
  have hx := hF.1.1
  have hb := hF.1.2.1
  unfold lp_W
  refine lv_aload_n hx hb dL_law_327 rfl (lv_at hl 1 rfl) ?_
  refine clc_Vi hF.1 hw (c_X11_word ec) hd_X11_word cw_L_34 (Nat.le_of_ble_eq_true rfl) rfl rfl (rest := []) hl.1 rfl (Nat.le_of_ble_eq_true rfl) ⟨(Nat.le_of_ble_eq_true rfl), (Nat.le_of_ble_eq_true rfl)⟩ ⟨lp_n3 hcap hmo hk hL, lp_n4 hcap hmo hk hL⟩ rfl dL_law_328 (fun H locs hw => ?_)
  have hw := lp_cr hw
  refine lv_aload_n hx hb dL_law_331 rfl (lv_at hl 2 rfl) ?_
  refine clc_Vi hF.1 hw (c_X12_word er) hd_X12_word cw_L_38 (Nat.le_of_ble_eq_true rfl) rfl rfl (rest := [.int _]) hl.1 rfl (Nat.le_of_ble_eq_true rfl) ⟨(Nat.le_of_ble_eq_true rfl), (Nat.le_of_ble_eq_true rfl)⟩ ⟨lp_n3 hcap hmo hk hL, lp_n4 hcap hmo hk hL⟩ rfl dL_law_332 (fun H locs hw => ?_)
  have hw := lp_rc hw
  refine lv_icmp_eq (tgt := 2184) hx hb dL_law_335 (by decide) (fun _ => ?_) (fun h => absurd rfl h)
  exact lp_end0 hG hr1 hw hl hmo
set_option maxRecDepth 100000 in
set_option maxHeartbeats 4000000 in
theorem lc_said (hF : lp_F p s m meth c b L xs) (hk : 7 * k + 7 ≤ L) (hG : lp_Go p l e s m below meth c b D cy k) (hr : rl_ Mc Mr) (hw : lp_c D cy s ad u Mc ad2 u2 Mr out fo H locs) (hl : lv_has ls 8 (lp_ls b k ad ad2 out)) : lp_W p l e s m below meth c b Mc k H locs (F0 m 487 ls []) := by
  obtain ⟨r, Mc1, Mr1, ec, er, hr1⟩ := m_said hr (xs (7 * k + 1)) (xs (7 * k + 2)) (xs (7 * k + 3)) (xs (7 * k + 4))
  have hmo : Mc.2.2 ≤ Mc1.2.2 := mo_X11_said ec
  have hcap := lp_cap hr1
  have hL := hF.2.2.2
  have hx := hF.1.1
  have hb := hF.1.2.1
  unfold lp_W
  refine lv_aload_n hx hb dL_law_487 rfl (lv_at hl 1 rfl) ?_
  refine lp_a hF hw.2.2.2.1 hk hl 1 (by decide) (by decide) dL_law_488 dL_law_489 dL_law_491 dL_law_492 dL_law_493 ?_
  refine lp_a hF hw.2.2.2.1 hk hl 2 (by decide) (by decide) dL_law_494 dL_law_495 dL_law_497 dL_law_498 dL_law_499 ?_
  refine lp_a hF hw.2.2.2.1 hk hl 3 (by decide) (by decide) dL_law_500 dL_law_501 dL_law_503 dL_law_504 dL_law_505 ?_
  refine lp_a hF hw.2.2.2.1 hk hl 4 (by decide) (by decide) dL_law_506 dL_law_507 dL_law_509 dL_law_510 dL_law_511 ?_
  refine cla_Vi hF.1 hw (c_X11_said ec) hd_X11_said cw_L_53 (Nat.le_of_ble_eq_true rfl) rfl rfl (rest := []) hl.1 rfl (Nat.le_of_ble_eq_true rfl) ⟨(Nat.le_of_ble_eq_true rfl), (Nat.le_of_ble_eq_true rfl)⟩ ⟨lp_n1 hcap hmo hk hL, lp_n2 hcap hmo hk hL⟩ rfl dL_law_512 (fun u H locs hw => ?_)
  have hw := lp_cr hw
  refine lv_aload_n hx hb dL_law_515 rfl (lv_at hl 2 rfl) ?_
  refine lp_a hF hw.2.2.2.1 hk hl 1 (by decide) (by decide) dL_law_516 dL_law_517 dL_law_519 dL_law_520 dL_law_521 ?_
  refine lp_a hF hw.2.2.2.1 hk hl 2 (by decide) (by decide) dL_law_522 dL_law_523 dL_law_525 dL_law_526 dL_law_527 ?_
  refine lp_a hF hw.2.2.2.1 hk hl 3 (by decide) (by decide) dL_law_528 dL_law_529 dL_law_531 dL_law_532 dL_law_533 ?_
  refine lp_a hF hw.2.2.2.1 hk hl 4 (by decide) (by decide) dL_law_534 dL_law_535 dL_law_537 dL_law_538 dL_law_539 ?_
  refine clc_Vi hF.1 hw (c_X12_said er) hd_X12_said cw_L_56 (Nat.le_of_ble_eq_true rfl) rfl rfl (rest := [.int _]) hl.1 rfl (Nat.le_of_ble_eq_true rfl) ⟨(Nat.le_of_ble_eq_true rfl), (Nat.le_of_ble_eq_true rfl)⟩ ⟨lp_n1 hcap hmo hk hL, lp_n2 hcap hmo hk hL⟩ rfl dL_law_540 (fun H locs hw => ?_)
  have hw := lp_rc hw
  refine lv_icmp_eq (tgt := 2184) hx hb dL_law_543 (by decide) (fun _ => ?_) (fun h => absurd rfl h)
  exact lp_end1 hG hr1 hw hl hmo
set_option maxRecDepth 100000 in
set_option maxHeartbeats 4000000 in
theorem lc_rhymes (hF : lp_F p s m meth c b L xs) (hk : 7 * k + 7 ≤ L) (hG : lp_Go p l e s m below meth c b D cy k) (hr : rl_ Mc Mr) (hw : lp_c D cy s ad u Mc ad2 u2 Mr out fo H locs) (hl : lv_has ls 8 (lp_ls b k ad ad2 out)) : lp_W p l e s m below meth c b Mc k H locs (F0 m 731 ls []) := by
  obtain ⟨r, Mc1, Mr1, ec, er, hr1⟩ := m_rhymes hr (xs (7 * k + 1)) (xs (7 * k + 2)) (xs (7 * k + 3)) (xs (7 * k + 4))
  have hmo : Mc.2.2 ≤ Mc1.2.2 := mo_X11_rhymes ec
  have hcap := lp_cap hr1
  have hL := hF.2.2.2
  have hx := hF.1.1
  have hb := hF.1.2.1
  unfold lp_W
  refine lv_aload_n hx hb dL_law_731 rfl (lv_at hl 1 rfl) ?_
  refine lp_a hF hw.2.2.2.1 hk hl 1 (by decide) (by decide) dL_law_732 dL_law_733 dL_law_735 dL_law_736 dL_law_737 ?_
  refine lp_a hF hw.2.2.2.1 hk hl 2 (by decide) (by decide) dL_law_738 dL_law_739 dL_law_741 dL_law_742 dL_law_743 ?_
  refine lp_a hF hw.2.2.2.1 hk hl 3 (by decide) (by decide) dL_law_744 dL_law_745 dL_law_747 dL_law_748 dL_law_749 ?_
  refine lp_a hF hw.2.2.2.1 hk hl 4 (by decide) (by decide) dL_law_750 dL_law_751 dL_law_753 dL_law_754 dL_law_755 ?_
  refine cla_Vi hF.1 hw (c_X11_rhymes ec) hd_X11_rhymes cw_L_70 (Nat.le_of_ble_eq_true rfl) rfl rfl (rest := []) hl.1 rfl (Nat.le_of_ble_eq_true rfl) ⟨(Nat.le_of_ble_eq_true rfl), (Nat.le_of_ble_eq_true rfl)⟩ ⟨lp_n1 hcap hmo hk hL, lp_n2 hcap hmo hk hL⟩ rfl dL_law_756 (fun u H locs hw => ?_)
  have hw := lp_cr hw
  refine lv_aload_n hx hb dL_law_759 rfl (lv_at hl 2 rfl) ?_
  refine lp_a hF hw.2.2.2.1 hk hl 1 (by decide) (by decide) dL_law_760 dL_law_761 dL_law_763 dL_law_764 dL_law_765 ?_
  refine lp_a hF hw.2.2.2.1 hk hl 2 (by decide) (by decide) dL_law_766 dL_law_767 dL_law_769 dL_law_770 dL_law_771 ?_
  refine lp_a hF hw.2.2.2.1 hk hl 3 (by decide) (by decide) dL_law_772 dL_law_773 dL_law_775 dL_law_776 dL_law_777 ?_
  refine lp_a hF hw.2.2.2.1 hk hl 4 (by decide) (by decide) dL_law_778 dL_law_779 dL_law_781 dL_law_782 dL_law_783 ?_
  refine clc_Vi hF.1 hw (c_X12_rhymes er) hd_X12_rhymes cw_L_73 (Nat.le_of_ble_eq_true rfl) rfl rfl (rest := [.int _]) hl.1 rfl (Nat.le_of_ble_eq_true rfl) ⟨(Nat.le_of_ble_eq_true rfl), (Nat.le_of_ble_eq_true rfl)⟩ ⟨lp_n1 hcap hmo hk hL, lp_n2 hcap hmo hk hL⟩ rfl dL_law_784 (fun H locs hw => ?_)
  have hw := lp_rc hw
  refine lv_icmp_eq (tgt := 2184) hx hb dL_law_787 (by decide) (fun _ => ?_) (fun h => absurd rfl h)
  exact lp_end1 hG hr1 hw hl hmo
set_option maxRecDepth 100000 in
set_option maxHeartbeats 4000000 in
theorem lc_by (hF : lp_F p s m meth c b L xs) (hk : 7 * k + 7 ≤ L) (hG : lp_Go p l e s m below meth c b D cy k) (hr : rl_ Mc Mr) (hw : lp_c D cy s ad u Mc ad2 u2 Mr out fo H locs) (hl : lv_has ls 8 (lp_ls b k ad ad2 out)) : lp_W p l e s m below meth c b Mc k H locs (F0 m 989 ls []) := by
  obtain ⟨r, Mc1, Mr1, ec, er, hr1⟩ := m_by hr (xs (7 * k + 1)) (xs (7 * k + 2)) (xs (7 * k + 3))
  have hmo : Mc.2.2 ≤ Mc1.2.2 := mo_X11_by ec
  have hcap := lp_cap hr1
  have hL := hF.2.2.2
  have hx := hF.1.1
  have hb := hF.1.2.1
  unfold lp_W
  refine lv_aload_n hx hb dL_law_989 rfl (lv_at hl 1 rfl) ?_
  refine lp_a hF hw.2.2.2.1 hk hl 1 (by decide) (by decide) dL_law_990 dL_law_991 dL_law_993 dL_law_994 dL_law_995 ?_
  refine lp_a hF hw.2.2.2.1 hk hl 2 (by decide) (by decide) dL_law_996 dL_law_997 dL_law_999 dL_law_1000 dL_law_1001 ?_
  refine lp_a hF hw.2.2.2.1 hk hl 3 (by decide) (by decide) dL_law_1002 dL_law_1003 dL_law_1005 dL_law_1006 dL_law_1007 ?_
  refine clc_Vi hF.1 hw (c_X11_by ec) hd_X11_by cw_L_87 (Nat.le_of_ble_eq_true rfl) rfl rfl (rest := []) hl.1 rfl (Nat.le_of_ble_eq_true rfl) ⟨(Nat.le_of_ble_eq_true rfl), (Nat.le_of_ble_eq_true rfl)⟩ ⟨lp_n3 hcap hmo hk hL, lp_n4 hcap hmo hk hL⟩ rfl dL_law_1008 (fun H locs hw => ?_)
  have hw := lp_cr hw
  refine lv_aload_n hx hb dL_law_1011 rfl (lv_at hl 2 rfl) ?_
  refine lp_a hF hw.2.2.2.1 hk hl 1 (by decide) (by decide) dL_law_1012 dL_law_1013 dL_law_1015 dL_law_1016 dL_law_1017 ?_
  refine lp_a hF hw.2.2.2.1 hk hl 2 (by decide) (by decide) dL_law_1018 dL_law_1019 dL_law_1021 dL_law_1022 dL_law_1023 ?_
  refine lp_a hF hw.2.2.2.1 hk hl 3 (by decide) (by decide) dL_law_1024 dL_law_1025 dL_law_1027 dL_law_1028 dL_law_1029 ?_
  refine clc_Vi hF.1 hw (c_X12_by er) hd_X12_by cw_L_91 (Nat.le_of_ble_eq_true rfl) rfl rfl (rest := [.int _]) hl.1 rfl (Nat.le_of_ble_eq_true rfl) ⟨(Nat.le_of_ble_eq_true rfl), (Nat.le_of_ble_eq_true rfl)⟩ ⟨lp_n3 hcap hmo hk hL, lp_n4 hcap hmo hk hL⟩ rfl dL_law_1030 (fun H locs hw => ?_)
  have hw := lp_rc hw
  refine lv_icmp_eq (tgt := 2184) hx hb dL_law_1033 (by decide) (fun _ => ?_) (fun h => absurd rfl h)
  exact lp_end0 hG hr1 hw hl hmo
set_option maxRecDepth 100000 in
set_option maxHeartbeats 4000000 in
theorem lc_order (hF : lp_F p s m meth c b L xs) (hk : 7 * k + 7 ≤ L) (hG : lp_Go p l e s m below meth c b D cy k) (hr : rl_ Mc Mr) (hw : lp_c D cy s ad u Mc ad2 u2 Mr out fo H locs) (hl : lv_has ls 8 (lp_ls b k ad ad2 out)) : lp_W p l e s m below meth c b Mc k H locs (F0 m 1178 ls []) := by
  obtain ⟨r, Mc1, Mr1, ec, er, hr1⟩ := m_order hr (xs (7 * k + 1)) (xs (7 * k + 2))
  have hmo : Mc.2.2 ≤ Mc1.2.2 := mo_X11_order ec
  have hcap := lp_cap hr1
  have hL := hF.2.2.2
  have hx := hF.1.1
  have hb := hF.1.2.1
  unfold lp_W
  refine lv_aload_n hx hb dL_law_1178 rfl (lv_at hl 1 rfl) ?_
  refine lp_a hF hw.2.2.2.1 hk hl 1 (by decide) (by decide) dL_law_1179 dL_law_1180 dL_law_1182 dL_law_1183 dL_law_1184 ?_
  refine lp_a hF hw.2.2.2.1 hk hl 2 (by decide) (by decide) dL_law_1185 dL_law_1186 dL_law_1188 dL_law_1189 dL_law_1190 ?_
  refine cla_Vi hF.1 hw (c_X11_order ec) hd_X11_order cw_L_109 (Nat.le_of_ble_eq_true rfl) rfl rfl (rest := []) hl.1 rfl (Nat.le_of_ble_eq_true rfl) ⟨(Nat.le_of_ble_eq_true rfl), (Nat.le_of_ble_eq_true rfl)⟩ ⟨lp_n1 hcap hmo hk hL, lp_n2 hcap hmo hk hL⟩ rfl dL_law_1191 (fun u H locs hw => ?_)
  have hw := lp_cr hw
  refine lv_aload_n hx hb dL_law_1194 rfl (lv_at hl 2 rfl) ?_
  refine lp_a hF hw.2.2.2.1 hk hl 1 (by decide) (by decide) dL_law_1195 dL_law_1196 dL_law_1198 dL_law_1199 dL_law_1200 ?_
  refine lp_a hF hw.2.2.2.1 hk hl 2 (by decide) (by decide) dL_law_1201 dL_law_1202 dL_law_1204 dL_law_1205 dL_law_1206 ?_
  refine clc_Vi hF.1 hw (c_X12_order er) hd_X12_order cw_L_112 (Nat.le_of_ble_eq_true rfl) rfl rfl (rest := [.int _]) hl.1 rfl (Nat.le_of_ble_eq_true rfl) ⟨(Nat.le_of_ble_eq_true rfl), (Nat.le_of_ble_eq_true rfl)⟩ ⟨lp_n1 hcap hmo hk hL, lp_n2 hcap hmo hk hL⟩ rfl dL_law_1207 (fun H locs hw => ?_)
  have hw := lp_rc hw
  refine lv_icmp_eq (tgt := 2184) hx hb dL_law_1210 (by decide) (fun _ => ?_) (fun h => absurd rfl h)
  exact lp_end1 hG hr1 hw hl hmo
set_option maxRecDepth 100000 in
set_option maxHeartbeats 4000000 in
theorem lc_shows (hF : lp_F p s m meth c b L xs) (hk : 7 * k + 7 ≤ L) (hG : lp_Go p l e s m below meth c b D cy k) (hr : rl_ Mc Mr) (hw : lp_c D cy s ad u Mc ad2 u2 Mr out fo H locs) (hl : lv_has ls 8 (lp_ls b k ad ad2 out)) : lp_W p l e s m below meth c b Mc k H locs (F0 m 1290 ls []) := by
  obtain ⟨r, Mc1, Mr1, ec, er, hr1⟩ := m_shows hr (xs (7 * k + 1)) (xs (7 * k + 2))
  have hmo : Mc.2.2 ≤ Mc1.2.2 := mo_X11_shows ec
  have hcap := lp_cap hr1
  have hL := hF.2.2.2
  have hx := hF.1.1
  have hb := hF.1.2.1
  unfold lp_W
  refine lv_aload_n hx hb dL_law_1290 rfl (lv_at hl 1 rfl) ?_
  refine lp_a hF hw.2.2.2.1 hk hl 1 (by decide) (by decide) dL_law_1291 dL_law_1292 dL_law_1294 dL_law_1295 dL_law_1296 ?_
  refine lp_a hF hw.2.2.2.1 hk hl 2 (by decide) (by decide) dL_law_1297 dL_law_1298 dL_law_1300 dL_law_1301 dL_law_1302 ?_
  refine cla_Vi hF.1 hw (c_X11_shows ec) hd_X11_shows cw_L_125 (Nat.le_of_ble_eq_true rfl) rfl rfl (rest := []) hl.1 rfl (Nat.le_of_ble_eq_true rfl) ⟨(Nat.le_of_ble_eq_true rfl), (Nat.le_of_ble_eq_true rfl)⟩ ⟨lp_n1 hcap hmo hk hL, lp_n2 hcap hmo hk hL⟩ rfl dL_law_1303 (fun u H locs hw => ?_)
  have hw := lp_cr hw
  refine lv_aload_n hx hb dL_law_1306 rfl (lv_at hl 2 rfl) ?_
  refine lp_a hF hw.2.2.2.1 hk hl 1 (by decide) (by decide) dL_law_1307 dL_law_1308 dL_law_1310 dL_law_1311 dL_law_1312 ?_
  refine lp_a hF hw.2.2.2.1 hk hl 2 (by decide) (by decide) dL_law_1313 dL_law_1314 dL_law_1316 dL_law_1317 dL_law_1318 ?_
  refine clc_Vi hF.1 hw (c_X12_shows er) hd_X12_shows cw_L_128 (Nat.le_of_ble_eq_true rfl) rfl rfl (rest := [.int _]) hl.1 rfl (Nat.le_of_ble_eq_true rfl) ⟨(Nat.le_of_ble_eq_true rfl), (Nat.le_of_ble_eq_true rfl)⟩ ⟨lp_n1 hcap hmo hk hL, lp_n2 hcap hmo hk hL⟩ rfl dL_law_1319 (fun H locs hw => ?_)
  have hw := lp_rc hw
  refine lv_icmp_eq (tgt := 2184) hx hb dL_law_1322 (by decide) (fun _ => ?_) (fun h => absurd rfl h)
  exact lp_end1 hG hr1 hw hl hmo
set_option maxRecDepth 100000 in
set_option maxHeartbeats 4000000 in
theorem lc_right (hF : lp_F p s m meth c b L xs) (hk : 7 * k + 7 ≤ L) (hG : lp_Go p l e s m below meth c b D cy k) (hr : rl_ Mc Mr) (hw : lp_c D cy s ad u Mc ad2 u2 Mr out fo H locs) (hl : lv_has ls 8 (lp_ls b k ad ad2 out)) : lp_W p l e s m below meth c b Mc k H locs (F0 m 1414 ls []) := by
  obtain ⟨r, Mc1, Mr1, ec, er, hr1⟩ := m_right hr (xs (7 * k + 1)) (xs (7 * k + 2)) (xs (7 * k + 3))
  have hmo : Mc.2.2 ≤ Mc1.2.2 := mo_X11_right ec
  have hcap := lp_cap hr1
  have hL := hF.2.2.2
  have hx := hF.1.1
  have hb := hF.1.2.1
  unfold lp_W
  refine lv_aload_n hx hb dL_law_1414 rfl (lv_at hl 1 rfl) ?_
  refine lp_a hF hw.2.2.2.1 hk hl 1 (by decide) (by decide) dL_law_1415 dL_law_1416 dL_law_1418 dL_law_1419 dL_law_1420 ?_
  refine lp_a hF hw.2.2.2.1 hk hl 2 (by decide) (by decide) dL_law_1421 dL_law_1422 dL_law_1424 dL_law_1425 dL_law_1426 ?_
  refine lp_a hF hw.2.2.2.1 hk hl 3 (by decide) (by decide) dL_law_1427 dL_law_1428 dL_law_1430 dL_law_1431 dL_law_1432 ?_
  refine cla_Vi hF.1 hw (c_X11_right ec) hd_X11_right cw_L_141 (Nat.le_of_ble_eq_true rfl) rfl rfl (rest := []) hl.1 rfl (Nat.le_of_ble_eq_true rfl) ⟨(Nat.le_of_ble_eq_true rfl), (Nat.le_of_ble_eq_true rfl)⟩ ⟨lp_n1 hcap hmo hk hL, lp_n2 hcap hmo hk hL⟩ rfl dL_law_1433 (fun u H locs hw => ?_)
  have hw := lp_cr hw
  refine lv_aload_n hx hb dL_law_1436 rfl (lv_at hl 2 rfl) ?_
  refine lp_a hF hw.2.2.2.1 hk hl 1 (by decide) (by decide) dL_law_1437 dL_law_1438 dL_law_1440 dL_law_1441 dL_law_1442 ?_
  refine lp_a hF hw.2.2.2.1 hk hl 2 (by decide) (by decide) dL_law_1443 dL_law_1444 dL_law_1446 dL_law_1447 dL_law_1448 ?_
  refine lp_a hF hw.2.2.2.1 hk hl 3 (by decide) (by decide) dL_law_1449 dL_law_1450 dL_law_1452 dL_law_1453 dL_law_1454 ?_
  refine clc_Vi hF.1 hw (c_X12_right er) hd_X12_right cw_L_144 (Nat.le_of_ble_eq_true rfl) rfl rfl (rest := [.int _]) hl.1 rfl (Nat.le_of_ble_eq_true rfl) ⟨(Nat.le_of_ble_eq_true rfl), (Nat.le_of_ble_eq_true rfl)⟩ ⟨lp_n1 hcap hmo hk hL, lp_n2 hcap hmo hk hL⟩ rfl dL_law_1455 (fun H locs hw => ?_)
  have hw := lp_rc hw
  refine lv_icmp_eq (tgt := 2184) hx hb dL_law_1458 (by decide) (fun _ => ?_) (fun h => absurd rfl h)
  exact lp_end1 hG hr1 hw hl hmo
set_option maxRecDepth 100000 in
set_option maxHeartbeats 4000000 in
theorem lc_lean (hF : lp_F p s m meth c b L xs) (hk : 7 * k + 7 ≤ L) (hG : lp_Go p l e s m below meth c b D cy k) (hr : rl_ Mc Mr) (hw : lp_c D cy s ad u Mc ad2 u2 Mr out fo H locs) (hl : lv_has ls 8 (lp_ls b k ad ad2 out)) : lp_W p l e s m below meth c b Mc k H locs (F0 m 1526 ls []) := by
  obtain ⟨r, Mc1, Mr1, ec, er, hr1⟩ := m_lean hr (xs (7 * k + 1)) (xs (7 * k + 2))
  have hmo : Mc.2.2 ≤ Mc1.2.2 := mo_X11_lean ec
  have hcap := lp_cap hr1
  have hL := hF.2.2.2
  have hx := hF.1.1
  have hb := hF.1.2.1
  unfold lp_W
  refine lv_aload_n hx hb dL_law_1526 rfl (lv_at hl 1 rfl) ?_
  refine lp_a hF hw.2.2.2.1 hk hl 1 (by decide) (by decide) dL_law_1527 dL_law_1528 dL_law_1530 dL_law_1531 dL_law_1532 ?_
  refine lp_a hF hw.2.2.2.1 hk hl 2 (by decide) (by decide) dL_law_1533 dL_law_1534 dL_law_1536 dL_law_1537 dL_law_1538 ?_
  refine cla_Vi hF.1 hw (c_X11_lean ec) hd_X11_lean cw_L_157 (Nat.le_of_ble_eq_true rfl) rfl rfl (rest := []) hl.1 rfl (Nat.le_of_ble_eq_true rfl) ⟨(Nat.le_of_ble_eq_true rfl), (Nat.le_of_ble_eq_true rfl)⟩ ⟨lp_n1 hcap hmo hk hL, lp_n2 hcap hmo hk hL⟩ rfl dL_law_1539 (fun u H locs hw => ?_)
  have hw := lp_cr hw
  refine lv_aload_n hx hb dL_law_1542 rfl (lv_at hl 2 rfl) ?_
  refine lp_a hF hw.2.2.2.1 hk hl 1 (by decide) (by decide) dL_law_1543 dL_law_1544 dL_law_1546 dL_law_1547 dL_law_1548 ?_
  refine lp_a hF hw.2.2.2.1 hk hl 2 (by decide) (by decide) dL_law_1549 dL_law_1550 dL_law_1552 dL_law_1553 dL_law_1554 ?_
  refine clc_Vi hF.1 hw (c_X12_lean er) hd_X12_lean cw_L_160 (Nat.le_of_ble_eq_true rfl) rfl rfl (rest := [.int _]) hl.1 rfl (Nat.le_of_ble_eq_true rfl) ⟨(Nat.le_of_ble_eq_true rfl), (Nat.le_of_ble_eq_true rfl)⟩ ⟨lp_n1 hcap hmo hk hL, lp_n2 hcap hmo hk hL⟩ rfl dL_law_1555 (fun H locs hw => ?_)
  have hw := lp_rc hw
  refine lv_icmp_eq (tgt := 2184) hx hb dL_law_1558 (by decide) (fun _ => ?_) (fun h => absurd rfl h)
  exact lp_end1 hG hr1 hw hl hmo
set_option maxRecDepth 100000 in
set_option maxHeartbeats 4000000 in
theorem lc_look (hF : lp_F p s m meth c b L xs) (hk : 7 * k + 7 ≤ L) (hG : lp_Go p l e s m below meth c b D cy k) (hr : rl_ Mc Mr) (hw : lp_c D cy s ad u Mc ad2 u2 Mr out fo H locs) (hl : lv_has ls 8 (lp_ls b k ad ad2 out)) : lp_W p l e s m below meth c b Mc k H locs (F0 m 1760 ls []) := by
  obtain ⟨r, Mc1, Mr1, ec, er, hr1⟩ := m_look hr (xs (7 * k + 1)) (xs (7 * k + 2))
  have hmo : Mc.2.2 ≤ Mc1.2.2 := mo_X11_look ec
  have hcap := lp_cap hr1
  have hL := hF.2.2.2
  have hx := hF.1.1
  have hb := hF.1.2.1
  unfold lp_W
  refine lv_aload_n hx hb dL_law_1760 rfl (lv_at hl 1 rfl) ?_
  refine lp_a hF hw.2.2.2.1 hk hl 1 (by decide) (by decide) dL_law_1761 dL_law_1762 dL_law_1764 dL_law_1765 dL_law_1766 ?_
  refine lp_a hF hw.2.2.2.1 hk hl 2 (by decide) (by decide) dL_law_1767 dL_law_1768 dL_law_1770 dL_law_1771 dL_law_1772 ?_
  refine cla_Vi hF.1 hw (c_X11_look ec) hd_X11_look cw_L_173 (Nat.le_of_ble_eq_true rfl) rfl rfl (rest := []) hl.1 rfl (Nat.le_of_ble_eq_true rfl) ⟨(Nat.le_of_ble_eq_true rfl), (Nat.le_of_ble_eq_true rfl)⟩ ⟨lp_n1 hcap hmo hk hL, lp_n2 hcap hmo hk hL⟩ rfl dL_law_1773 (fun u H locs hw => ?_)
  have hw := lp_cr hw
  refine lv_aload_n hx hb dL_law_1776 rfl (lv_at hl 2 rfl) ?_
  refine lp_a hF hw.2.2.2.1 hk hl 1 (by decide) (by decide) dL_law_1777 dL_law_1778 dL_law_1780 dL_law_1781 dL_law_1782 ?_
  refine lp_a hF hw.2.2.2.1 hk hl 2 (by decide) (by decide) dL_law_1783 dL_law_1784 dL_law_1786 dL_law_1787 dL_law_1788 ?_
  refine clc_Vi hF.1 hw (c_X12_look er) hd_X12_look cw_L_176 (Nat.le_of_ble_eq_true rfl) rfl rfl (rest := [.int _]) hl.1 rfl (Nat.le_of_ble_eq_true rfl) ⟨(Nat.le_of_ble_eq_true rfl), (Nat.le_of_ble_eq_true rfl)⟩ ⟨lp_n1 hcap hmo hk hL, lp_n2 hcap hmo hk hL⟩ rfl dL_law_1789 (fun H locs hw => ?_)
  have hw := lp_rc hw
  refine lv_icmp_eq (tgt := 2184) hx hb dL_law_1792 (by decide) (fun _ => ?_) (fun h => absurd rfl h)
  exact lp_end1 hG hr1 hw hl hmo
set_option maxRecDepth 100000 in
set_option maxHeartbeats 4000000 in
theorem lc_swap (hF : lp_F p s m meth c b L xs) (hk : 7 * k + 7 ≤ L) (hG : lp_Go p l e s m below meth c b D cy k) (hr : rl_ Mc Mr) (hw : lp_c D cy s ad u Mc ad2 u2 Mr out fo H locs) (hl : lv_has ls 8 (lp_ls b k ad ad2 out)) : lp_W p l e s m below meth c b Mc k H locs (F0 m 1944 ls []) := by
  obtain ⟨r, Mc1, Mr1, ec, er, hr1⟩ := m_swap hr (xs (7 * k + 1)) (xs (7 * k + 2)) (xs (7 * k + 3)) (xs (7 * k + 4)) (xs (7 * k + 5))
  have hmo : Mc.2.2 ≤ Mc1.2.2 := mo_X11_swap ec
  have hcap := lp_cap hr1
  have hL := hF.2.2.2
  have hx := hF.1.1
  have hb := hF.1.2.1
  unfold lp_W
  refine lv_aload_n hx hb dL_law_1944 rfl (lv_at hl 1 rfl) ?_
  refine lp_a hF hw.2.2.2.1 hk hl 1 (by decide) (by decide) dL_law_1945 dL_law_1946 dL_law_1948 dL_law_1949 dL_law_1950 ?_
  refine lp_a hF hw.2.2.2.1 hk hl 2 (by decide) (by decide) dL_law_1951 dL_law_1952 dL_law_1954 dL_law_1955 dL_law_1956 ?_
  refine lp_a hF hw.2.2.2.1 hk hl 3 (by decide) (by decide) dL_law_1957 dL_law_1958 dL_law_1960 dL_law_1961 dL_law_1962 ?_
  refine lp_a hF hw.2.2.2.1 hk hl 4 (by decide) (by decide) dL_law_1963 dL_law_1964 dL_law_1966 dL_law_1967 dL_law_1968 ?_
  refine lp_a hF hw.2.2.2.1 hk hl 5 (by decide) (by decide) dL_law_1969 dL_law_1970 dL_law_1972 dL_law_1973 dL_law_1974 ?_
  refine cla_Vi hF.1 hw (c_X11_swap ec) hd_X11_swap cw_L_189 (Nat.le_of_ble_eq_true rfl) rfl rfl (rest := []) hl.1 rfl (Nat.le_of_ble_eq_true rfl) ⟨(Nat.le_of_ble_eq_true rfl), (Nat.le_of_ble_eq_true rfl)⟩ ⟨lp_n1 hcap hmo hk hL, lp_n2 hcap hmo hk hL⟩ rfl dL_law_1975 (fun u H locs hw => ?_)
  have hw := lp_cr hw
  refine lv_aload_n hx hb dL_law_1978 rfl (lv_at hl 2 rfl) ?_
  refine lp_a hF hw.2.2.2.1 hk hl 1 (by decide) (by decide) dL_law_1979 dL_law_1980 dL_law_1982 dL_law_1983 dL_law_1984 ?_
  refine lp_a hF hw.2.2.2.1 hk hl 2 (by decide) (by decide) dL_law_1985 dL_law_1986 dL_law_1988 dL_law_1989 dL_law_1990 ?_
  refine lp_a hF hw.2.2.2.1 hk hl 3 (by decide) (by decide) dL_law_1991 dL_law_1992 dL_law_1994 dL_law_1995 dL_law_1996 ?_
  refine lp_a hF hw.2.2.2.1 hk hl 4 (by decide) (by decide) dL_law_1997 dL_law_1998 dL_law_2000 dL_law_2001 dL_law_2002 ?_
  refine lp_a hF hw.2.2.2.1 hk hl 5 (by decide) (by decide) dL_law_2003 dL_law_2004 dL_law_2006 dL_law_2007 dL_law_2008 ?_
  refine clc_Vi hF.1 hw (c_X12_swap er) hd_X12_swap cw_L_192 (Nat.le_of_ble_eq_true rfl) rfl rfl (rest := [.int _]) hl.1 rfl (Nat.le_of_ble_eq_true rfl) ⟨(Nat.le_of_ble_eq_true rfl), (Nat.le_of_ble_eq_true rfl)⟩ ⟨lp_n1 hcap hmo hk hL, lp_n2 hcap hmo hk hL⟩ rfl dL_law_2009 (fun H locs hw => ?_)
  have hw := lp_rc hw
  refine lv_icmp_eq (tgt := 2184) hx hb dL_law_2012 (by decide) (fun _ => ?_) (fun h => absurd rfl h)
  exact lp_end1 hG hr1 hw hl hmo
set_option maxRecDepth 100000 in
set_option maxHeartbeats 4000000 in
theorem lc_year (hF : lp_F p s m meth c b L xs) (hk : 7 * k + 7 ≤ L) (hG : lp_Go p l e s m below meth c b D cy k) (hr : rl_ Mc Mr) (hw : lp_c D cy s ad u Mc ad2 u2 Mr out fo H locs) (hl : lv_has ls 8 (lp_ls b k ad ad2 out)) : lp_W p l e s m below meth c b Mc k H locs (F0 m 2092 ls []) := by
  obtain ⟨r, Mr1, ec, er, hr1⟩ := m_year hr (xs (7 * k + 1)) (xs (7 * k + 2))
  have hmo : Mc.2.2 ≤ Mc.2.2 := Nat.le_refl _
  have hcap := lp_cap hr1
  have hL := hF.2.2.2
  have hx := hF.1.1
  have hb := hF.1.2.1
  unfold lp_W
  refine lv_aload_n hx hb dL_law_2092 rfl (lv_at hl 1 rfl) ?_
  refine lp_a hF hw.2.2.2.1 hk hl 1 (by decide) (by decide) dL_law_2093 dL_law_2094 dL_law_2096 dL_law_2097 dL_law_2098 ?_
  refine lp_a hF hw.2.2.2.1 hk hl 2 (by decide) (by decide) dL_law_2099 dL_law_2100 dL_law_2102 dL_law_2103 dL_law_2104 ?_
  refine clc_Vi hF.1 hw (c_X11_year ec) hd_X11_year cw_L_205 (Nat.le_of_ble_eq_true rfl) rfl rfl (rest := []) hl.1 rfl (Nat.le_of_ble_eq_true rfl) ⟨(Nat.le_of_ble_eq_true rfl), (Nat.le_of_ble_eq_true rfl)⟩ ⟨lp_n3 hcap hmo hk hL, lp_n4 hcap hmo hk hL⟩ rfl dL_law_2105 (fun H locs hw => ?_)
  have hw := lp_cr hw
  refine lv_aload_n hx hb dL_law_2108 rfl (lv_at hl 2 rfl) ?_
  refine lp_a hF hw.2.2.2.1 hk hl 1 (by decide) (by decide) dL_law_2109 dL_law_2110 dL_law_2112 dL_law_2113 dL_law_2114 ?_
  refine lp_a hF hw.2.2.2.1 hk hl 2 (by decide) (by decide) dL_law_2115 dL_law_2116 dL_law_2118 dL_law_2119 dL_law_2120 ?_
  refine clc_Vi hF.1 hw (c_X12_year er) hd_X12_year cw_L_208 (Nat.le_of_ble_eq_true rfl) rfl rfl (rest := [.int _]) hl.1 rfl (Nat.le_of_ble_eq_true rfl) ⟨(Nat.le_of_ble_eq_true rfl), (Nat.le_of_ble_eq_true rfl)⟩ ⟨lp_n3 hcap hmo hk hL, lp_n4 hcap hmo hk hL⟩ rfl dL_law_2121 (fun H locs hw => ?_)
  have hw := lp_rc hw
  refine lv_icmp_eq (tgt := 2184) hx hb dL_law_2124 (by decide) (fun _ => ?_) (fun h => absurd rfl h)
  exact lp_end0 hG hr1 hw hl hmo
end LAW
