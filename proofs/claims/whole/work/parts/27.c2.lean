section LAW
variable {p : Program} {l : Launch} {e : Env} {s : State} {m : MethodId} {below : List Frame} {meth : Method} {c : Code} {b L k : Nat} {xs : Nat → Int32} {D : va_G} {cy : Nat → ClassId} {ad ad2 : Nat → Nat} {u u2 : Nat × Nat} {Mc Mr : mm_M} {out : Nat} {fo : Nat → Int64} {H : Heap} {locs : List Loc} {ls : Array Slot}
set_option maxRecDepth 100000 in
set_option maxHeartbeats 4000000 in
theorem lc_group (hF : lp_F p s m meth c b L xs) (hk : 7 * k + 7 ≤ L) (hG : lp_Go p l e s m below meth c b D cy k) (hr : rl_ Mc Mr) (hw : lp_c D cy s ad u Mc ad2 u2 Mr out fo H locs) (hl : lv_has ls 8 (lp_ls b k ad ad2 out)) : lp_W p l e s m below meth c b Mc k H locs (F0 m 290 ls []) := by
  obtain ⟨r, Mc1, Mr1, ec, er, hr1⟩ := m_group hr (xs (7 * k + 1)) (xs (7 * k + 2))
  have hmo : Mc.2.2 ≤ Mc1.2.2 := mo_X11_group ec
  have hcap := lp_cap hr1
  have hL := hF.2.2.2
  have hx := hF.1.1
  have hb := hF.1.2.1
  unfold lp_W
  refine lv_aload_n hx hb dL_law_290 rfl (lv_at hl 1 rfl) ?_
  refine lp_a hF hw.2.2.2.1 hk hl 1 (by decide) (by decide) dL_law_291 dL_law_292 dL_law_294 dL_law_295 dL_law_296 ?_
  refine lp_a hF hw.2.2.2.1 hk hl 2 (by decide) (by decide) dL_law_297 dL_law_298 dL_law_300 dL_law_301 dL_law_302 ?_
  refine clc_Vi hF.1 hw (c_X11_group ec) hd_X11_group cw_L_29 (Nat.le_of_ble_eq_true rfl) rfl rfl (rest := []) hl.1 rfl (Nat.le_of_ble_eq_true rfl) ⟨(Nat.le_of_ble_eq_true rfl), (Nat.le_of_ble_eq_true rfl)⟩ ⟨lp_n3 hcap hmo hk hL, lp_n4 hcap hmo hk hL⟩ rfl dL_law_303 (fun H locs hw => ?_)
  have hw := lp_cr hw
  refine lv_aload_n hx hb dL_law_306 rfl (lv_at hl 2 rfl) ?_
  refine lp_a hF hw.2.2.2.1 hk hl 1 (by decide) (by decide) dL_law_307 dL_law_308 dL_law_310 dL_law_311 dL_law_312 ?_
  refine lp_a hF hw.2.2.2.1 hk hl 2 (by decide) (by decide) dL_law_313 dL_law_314 dL_law_316 dL_law_317 dL_law_318 ?_
  refine clc_Vi hF.1 hw (c_X12_group er) hd_X12_group cw_L_33 (Nat.le_of_ble_eq_true rfl) rfl rfl (rest := [.int _]) hl.1 rfl (Nat.le_of_ble_eq_true rfl) ⟨(Nat.le_of_ble_eq_true rfl), (Nat.le_of_ble_eq_true rfl)⟩ ⟨lp_n3 hcap hmo hk hL, lp_n4 hcap hmo hk hL⟩ rfl dL_law_319 (fun H locs hw => ?_)
  have hw := lp_rc hw
  refine lv_icmp_eq (tgt := 2184) hx hb dL_law_322 (by decide) (fun _ => ?_) (fun h => absurd rfl h)
  exact lp_end0 hG hr1 hw hl hmo
set_option maxRecDepth 100000 in
set_option maxHeartbeats 4000000 in
theorem lc_lags (hF : lp_F p s m meth c b L xs) (hk : 7 * k + 7 ≤ L) (hG : lp_Go p l e s m below meth c b D cy k) (hr : rl_ Mc Mr) (hw : lp_c D cy s ad u Mc ad2 u2 Mr out fo H locs) (hl : lv_has ls 8 (lp_ls b k ad ad2 out)) : lp_W p l e s m below meth c b Mc k H locs (F0 m 426 ls []) := by
  obtain ⟨r, Mc1, Mr1, ec, er, hr1⟩ := m_lags hr (xs (7 * k + 1)) (xs (7 * k + 2)) (xs (7 * k + 3)) (xs (7 * k + 4))
  have hmo : Mc.2.2 ≤ Mc1.2.2 := mo_X11_lags ec
  have hcap := lp_cap hr1
  have hL := hF.2.2.2
  have hx := hF.1.1
  have hb := hF.1.2.1
  unfold lp_W
  refine lv_aload_n hx hb dL_law_426 rfl (lv_at hl 1 rfl) ?_
  refine lp_a hF hw.2.2.2.1 hk hl 1 (by decide) (by decide) dL_law_427 dL_law_428 dL_law_430 dL_law_431 dL_law_432 ?_
  refine lp_a hF hw.2.2.2.1 hk hl 2 (by decide) (by decide) dL_law_433 dL_law_434 dL_law_436 dL_law_437 dL_law_438 ?_
  refine lp_a hF hw.2.2.2.1 hk hl 3 (by decide) (by decide) dL_law_439 dL_law_440 dL_law_442 dL_law_443 dL_law_444 ?_
  refine lp_a hF hw.2.2.2.1 hk hl 4 (by decide) (by decide) dL_law_445 dL_law_446 dL_law_448 dL_law_449 dL_law_450 ?_
  refine clc_Vi hF.1 hw (c_X11_lags ec) hd_X11_lags cw_L_48 (Nat.le_of_ble_eq_true rfl) rfl rfl (rest := []) hl.1 rfl (Nat.le_of_ble_eq_true rfl) ⟨(Nat.le_of_ble_eq_true rfl), (Nat.le_of_ble_eq_true rfl)⟩ ⟨lp_n3 hcap hmo hk hL, lp_n4 hcap hmo hk hL⟩ rfl dL_law_451 (fun H locs hw => ?_)
  have hw := lp_cr hw
  refine lv_aload_n hx hb dL_law_454 rfl (lv_at hl 2 rfl) ?_
  refine lp_a hF hw.2.2.2.1 hk hl 1 (by decide) (by decide) dL_law_455 dL_law_456 dL_law_458 dL_law_459 dL_law_460 ?_
  refine lp_a hF hw.2.2.2.1 hk hl 2 (by decide) (by decide) dL_law_461 dL_law_462 dL_law_464 dL_law_465 dL_law_466 ?_
  refine lp_a hF hw.2.2.2.1 hk hl 3 (by decide) (by decide) dL_law_467 dL_law_468 dL_law_470 dL_law_471 dL_law_472 ?_
  refine lp_a hF hw.2.2.2.1 hk hl 4 (by decide) (by decide) dL_law_473 dL_law_474 dL_law_476 dL_law_477 dL_law_478 ?_
  refine clc_Vi hF.1 hw (c_X12_lags er) hd_X12_lags cw_L_52 (Nat.le_of_ble_eq_true rfl) rfl rfl (rest := [.int _]) hl.1 rfl (Nat.le_of_ble_eq_true rfl) ⟨(Nat.le_of_ble_eq_true rfl), (Nat.le_of_ble_eq_true rfl)⟩ ⟨lp_n3 hcap hmo hk hL, lp_n4 hcap hmo hk hL⟩ rfl dL_law_479 (fun H locs hw => ?_)
  have hw := lp_rc hw
  refine lv_icmp_eq (tgt := 2184) hx hb dL_law_482 (by decide) (fun _ => ?_) (fun h => absurd rfl h)
  exact lp_end0 hG hr1 hw hl hmo
set_option maxRecDepth 100000 in
set_option maxHeartbeats 4000000 in
theorem lc_one (hF : lp_F p s m meth c b L xs) (hk : 7 * k + 7 ≤ L) (hG : lp_Go p l e s m below meth c b D cy k) (hr : rl_ Mc Mr) (hw : lp_c D cy s ad u Mc ad2 u2 Mr out fo H locs) (hl : lv_has ls 8 (lp_ls b k ad ad2 out)) : lp_W p l e s m below meth c b Mc k H locs (F0 m 670 ls []) := by
  obtain ⟨r, Mc1, Mr1, ec, er, hr1⟩ := m_one hr (xs (7 * k + 1)) (xs (7 * k + 2)) (xs (7 * k + 3)) (xs (7 * k + 4))
  have hmo : Mc.2.2 ≤ Mc1.2.2 := mo_X11_one ec
  have hcap := lp_cap hr1
  have hL := hF.2.2.2
  have hx := hF.1.1
  have hb := hF.1.2.1
  unfold lp_W
  refine lv_aload_n hx hb dL_law_670 rfl (lv_at hl 1 rfl) ?_
  refine lp_a hF hw.2.2.2.1 hk hl 1 (by decide) (by decide) dL_law_671 dL_law_672 dL_law_674 dL_law_675 dL_law_676 ?_
  refine lp_a hF hw.2.2.2.1 hk hl 2 (by decide) (by decide) dL_law_677 dL_law_678 dL_law_680 dL_law_681 dL_law_682 ?_
  refine lp_a hF hw.2.2.2.1 hk hl 3 (by decide) (by decide) dL_law_683 dL_law_684 dL_law_686 dL_law_687 dL_law_688 ?_
  refine lp_a hF hw.2.2.2.1 hk hl 4 (by decide) (by decide) dL_law_689 dL_law_690 dL_law_692 dL_law_693 dL_law_694 ?_
  refine cla_Vi hF.1 hw (c_X11_one ec) hd_X11_one cw_L_66 (Nat.le_of_ble_eq_true rfl) rfl rfl (rest := []) hl.1 rfl (Nat.le_of_ble_eq_true rfl) ⟨(Nat.le_of_ble_eq_true rfl), (Nat.le_of_ble_eq_true rfl)⟩ ⟨lp_n1 hcap hmo hk hL, lp_n2 hcap hmo hk hL⟩ rfl dL_law_695 (fun u H locs hw => ?_)
  have hw := lp_cr hw
  refine lv_aload_n hx hb dL_law_698 rfl (lv_at hl 2 rfl) ?_
  refine lp_a hF hw.2.2.2.1 hk hl 1 (by decide) (by decide) dL_law_699 dL_law_700 dL_law_702 dL_law_703 dL_law_704 ?_
  refine lp_a hF hw.2.2.2.1 hk hl 2 (by decide) (by decide) dL_law_705 dL_law_706 dL_law_708 dL_law_709 dL_law_710 ?_
  refine lp_a hF hw.2.2.2.1 hk hl 3 (by decide) (by decide) dL_law_711 dL_law_712 dL_law_714 dL_law_715 dL_law_716 ?_
  refine lp_a hF hw.2.2.2.1 hk hl 4 (by decide) (by decide) dL_law_717 dL_law_718 dL_law_720 dL_law_721 dL_law_722 ?_
  refine clc_Vi hF.1 hw (c_X12_one er) hd_X12_one cw_L_69 (Nat.le_of_ble_eq_true rfl) rfl rfl (rest := [.int _]) hl.1 rfl (Nat.le_of_ble_eq_true rfl) ⟨(Nat.le_of_ble_eq_true rfl), (Nat.le_of_ble_eq_true rfl)⟩ ⟨lp_n1 hcap hmo hk hL, lp_n2 hcap hmo hk hL⟩ rfl dL_law_723 (fun H locs hw => ?_)
  have hw := lp_rc hw
  refine lv_icmp_eq (tgt := 2184) hx hb dL_law_726 (by decide) (fun _ => ?_) (fun h => absurd rfl h)
  exact lp_end1 hG hr1 hw hl hmo
set_option maxRecDepth 100000 in
set_option maxHeartbeats 4000000 in
theorem lc_mark (hF : lp_F p s m meth c b L xs) (hk : 7 * k + 7 ≤ L) (hG : lp_Go p l e s m below meth c b D cy k) (hr : rl_ Mc Mr) (hw : lp_c D cy s ad u Mc ad2 u2 Mr out fo H locs) (hl : lv_has ls 8 (lp_ls b k ad ad2 out)) : lp_W p l e s m below meth c b Mc k H locs (F0 m 902 ls []) := by
  obtain ⟨r, Mc1, Mr1, ec, er, hr1⟩ := m_mark hr (xs (7 * k + 1)) (xs (7 * k + 2)) (xs (7 * k + 3)) (xs (7 * k + 4)) (xs (7 * k + 5)) (xs (7 * k + 6))
  have hmo : Mc.2.2 ≤ Mc1.2.2 := mo_X11_mark ec
  have hcap := lp_cap hr1
  have hL := hF.2.2.2
  have hx := hF.1.1
  have hb := hF.1.2.1
  unfold lp_W
  refine lv_aload_n hx hb dL_law_902 rfl (lv_at hl 1 rfl) ?_
  refine lp_a hF hw.2.2.2.1 hk hl 1 (by decide) (by decide) dL_law_903 dL_law_904 dL_law_906 dL_law_907 dL_law_908 ?_
  refine lp_a hF hw.2.2.2.1 hk hl 2 (by decide) (by decide) dL_law_909 dL_law_910 dL_law_912 dL_law_913 dL_law_914 ?_
  refine lp_a hF hw.2.2.2.1 hk hl 3 (by decide) (by decide) dL_law_915 dL_law_916 dL_law_918 dL_law_919 dL_law_920 ?_
  refine lp_a hF hw.2.2.2.1 hk hl 4 (by decide) (by decide) dL_law_921 dL_law_922 dL_law_924 dL_law_925 dL_law_926 ?_
  refine lp_a hF hw.2.2.2.1 hk hl 5 (by decide) (by decide) dL_law_927 dL_law_928 dL_law_930 dL_law_931 dL_law_932 ?_
  refine lp_ab hF hw.2.2.2.1 hk hl 6 (by decide) (by decide) dL_law_933 dL_law_934 dL_law_936 dL_law_938 dL_law_939 ?_
  refine clc_Vi hF.1 hw (c_X11_mark ec) hd_X11_mark cw_L_82 (Nat.le_of_ble_eq_true rfl) rfl rfl (rest := []) hl.1 rfl (Nat.le_of_ble_eq_true rfl) ⟨(Nat.le_of_ble_eq_true rfl), (Nat.le_of_ble_eq_true rfl)⟩ ⟨lp_n3 hcap hmo hk hL, lp_n4 hcap hmo hk hL⟩ rfl dL_law_940 (fun H locs hw => ?_)
  have hw := lp_cr hw
  refine lv_aload_n hx hb dL_law_943 rfl (lv_at hl 2 rfl) ?_
  refine lp_a hF hw.2.2.2.1 hk hl 1 (by decide) (by decide) dL_law_944 dL_law_945 dL_law_947 dL_law_948 dL_law_949 ?_
  refine lp_a hF hw.2.2.2.1 hk hl 2 (by decide) (by decide) dL_law_950 dL_law_951 dL_law_953 dL_law_954 dL_law_955 ?_
  refine lp_a hF hw.2.2.2.1 hk hl 3 (by decide) (by decide) dL_law_956 dL_law_957 dL_law_959 dL_law_960 dL_law_961 ?_
  refine lp_a hF hw.2.2.2.1 hk hl 4 (by decide) (by decide) dL_law_962 dL_law_963 dL_law_965 dL_law_966 dL_law_967 ?_
  refine lp_a hF hw.2.2.2.1 hk hl 5 (by decide) (by decide) dL_law_968 dL_law_969 dL_law_971 dL_law_972 dL_law_973 ?_
  refine lp_ab hF hw.2.2.2.1 hk hl 6 (by decide) (by decide) dL_law_974 dL_law_975 dL_law_977 dL_law_979 dL_law_980 ?_
  refine clc_Vi hF.1 hw (c_X12_mark er) hd_X12_mark cw_L_86 (Nat.le_of_ble_eq_true rfl) rfl rfl (rest := [.int _]) hl.1 rfl (Nat.le_of_ble_eq_true rfl) ⟨(Nat.le_of_ble_eq_true rfl), (Nat.le_of_ble_eq_true rfl)⟩ ⟨lp_n3 hcap hmo hk hL, lp_n4 hcap hmo hk hL⟩ rfl dL_law_981 (fun H locs hw => ?_)
  have hw := lp_rc hw
  refine lv_icmp_eq (tgt := 2184) hx hb dL_law_984 (by decide) (fun _ => ?_) (fun h => absurd rfl h)
  exact lp_end0 hG hr1 hw hl hmo
set_option maxRecDepth 100000 in
set_option maxHeartbeats 4000000 in
theorem lc_span (hF : lp_F p s m meth c b L xs) (hk : 7 * k + 7 ≤ L) (hG : lp_Go p l e s m below meth c b D cy k) (hr : rl_ Mc Mr) (hw : lp_c D cy s ad u Mc ad2 u2 Mr out fo H locs) (hl : lv_has ls 8 (lp_ls b k ad ad2 out)) : lp_W p l e s m below meth c b Mc k H locs (F0 m 1141 ls []) := by
  obtain ⟨r, Mc1, Mr1, ec, er, hr1⟩ := m_span hr (xs (7 * k + 1)) (xs (7 * k + 2))
  have hmo : Mc.2.2 ≤ Mc1.2.2 := mo_X11_span ec
  have hcap := lp_cap hr1
  have hL := hF.2.2.2
  have hx := hF.1.1
  have hb := hF.1.2.1
  unfold lp_W
  refine lv_aload_n hx hb dL_law_1141 rfl (lv_at hl 1 rfl) ?_
  refine lp_a hF hw.2.2.2.1 hk hl 1 (by decide) (by decide) dL_law_1142 dL_law_1143 dL_law_1145 dL_law_1146 dL_law_1147 ?_
  refine lp_a hF hw.2.2.2.1 hk hl 2 (by decide) (by decide) dL_law_1148 dL_law_1149 dL_law_1151 dL_law_1152 dL_law_1153 ?_
  refine cla_Vi hF.1 hw (c_X11_span ec) hd_X11_span cw_L_105 (Nat.le_of_ble_eq_true rfl) rfl rfl (rest := []) hl.1 rfl (Nat.le_of_ble_eq_true rfl) ⟨(Nat.le_of_ble_eq_true rfl), (Nat.le_of_ble_eq_true rfl)⟩ ⟨lp_n1 hcap hmo hk hL, lp_n2 hcap hmo hk hL⟩ rfl dL_law_1154 (fun u H locs hw => ?_)
  have hw := lp_cr hw
  refine lv_aload_n hx hb dL_law_1157 rfl (lv_at hl 2 rfl) ?_
  refine lp_a hF hw.2.2.2.1 hk hl 1 (by decide) (by decide) dL_law_1158 dL_law_1159 dL_law_1161 dL_law_1162 dL_law_1163 ?_
  refine lp_a hF hw.2.2.2.1 hk hl 2 (by decide) (by decide) dL_law_1164 dL_law_1165 dL_law_1167 dL_law_1168 dL_law_1169 ?_
  refine clc_Vi hF.1 hw (c_X12_span er) hd_X12_span cw_L_108 (Nat.le_of_ble_eq_true rfl) rfl rfl (rest := [.int _]) hl.1 rfl (Nat.le_of_ble_eq_true rfl) ⟨(Nat.le_of_ble_eq_true rfl), (Nat.le_of_ble_eq_true rfl)⟩ ⟨lp_n1 hcap hmo hk hL, lp_n2 hcap hmo hk hL⟩ rfl dL_law_1170 (fun H locs hw => ?_)
  have hw := lp_rc hw
  refine lv_icmp_eq (tgt := 2184) hx hb dL_law_1173 (by decide) (fun _ => ?_) (fun h => absurd rfl h)
  exact lp_end1 hG hr1 hw hl hmo
set_option maxRecDepth 100000 in
set_option maxHeartbeats 4000000 in
theorem lc_sure (hF : lp_F p s m meth c b L xs) (hk : 7 * k + 7 ≤ L) (hG : lp_Go p l e s m below meth c b D cy k) (hr : rl_ Mc Mr) (hw : lp_c D cy s ad u Mc ad2 u2 Mr out fo H locs) (hl : lv_has ls 8 (lp_ls b k ad ad2 out)) : lp_W p l e s m below meth c b Mc k H locs (F0 m 1241 ls []) := by
  obtain ⟨r, Mc1, Mr1, ec, er, hr1⟩ := m_sure hr (xs (7 * k + 1)) (xs (7 * k + 2)) (xs (7 * k + 3))
  have hmo : Mc.2.2 ≤ Mc1.2.2 := mo_X11_sure ec
  have hcap := lp_cap hr1
  have hL := hF.2.2.2
  have hx := hF.1.1
  have hb := hF.1.2.1
  unfold lp_W
  refine lv_aload_n hx hb dL_law_1241 rfl (lv_at hl 1 rfl) ?_
  refine lp_a hF hw.2.2.2.1 hk hl 1 (by decide) (by decide) dL_law_1242 dL_law_1243 dL_law_1245 dL_law_1246 dL_law_1247 ?_
  refine lp_a hF hw.2.2.2.1 hk hl 2 (by decide) (by decide) dL_law_1248 dL_law_1249 dL_law_1251 dL_law_1252 dL_law_1253 ?_
  refine lp_a hF hw.2.2.2.1 hk hl 3 (by decide) (by decide) dL_law_1254 dL_law_1255 dL_law_1257 dL_law_1258 dL_law_1259 ?_
  refine cla_Vi hF.1 hw (c_X11_sure ec) hd_X11_sure cw_L_121 (Nat.le_of_ble_eq_true rfl) rfl rfl (rest := []) hl.1 rfl (Nat.le_of_ble_eq_true rfl) ⟨(Nat.le_of_ble_eq_true rfl), (Nat.le_of_ble_eq_true rfl)⟩ ⟨lp_n1 hcap hmo hk hL, lp_n2 hcap hmo hk hL⟩ rfl dL_law_1260 (fun u H locs hw => ?_)
  have hw := lp_cr hw
  refine lv_aload_n hx hb dL_law_1263 rfl (lv_at hl 2 rfl) ?_
  refine lp_a hF hw.2.2.2.1 hk hl 1 (by decide) (by decide) dL_law_1264 dL_law_1265 dL_law_1267 dL_law_1268 dL_law_1269 ?_
  refine lp_a hF hw.2.2.2.1 hk hl 2 (by decide) (by decide) dL_law_1270 dL_law_1271 dL_law_1273 dL_law_1274 dL_law_1275 ?_
  refine lp_a hF hw.2.2.2.1 hk hl 3 (by decide) (by decide) dL_law_1276 dL_law_1277 dL_law_1279 dL_law_1280 dL_law_1281 ?_
  refine clc_Vi hF.1 hw (c_X12_sure er) hd_X12_sure cw_L_124 (Nat.le_of_ble_eq_true rfl) rfl rfl (rest := [.int _]) hl.1 rfl (Nat.le_of_ble_eq_true rfl) ⟨(Nat.le_of_ble_eq_true rfl), (Nat.le_of_ble_eq_true rfl)⟩ ⟨lp_n1 hcap hmo hk hL, lp_n2 hcap hmo hk hL⟩ rfl dL_law_1282 (fun H locs hw => ?_)
  have hw := lp_rc hw
  refine lv_icmp_eq (tgt := 2184) hx hb dL_law_1285 (by decide) (fun _ => ?_) (fun h => absurd rfl h)
  exact lp_end1 hG hr1 hw hl hmo
set_option maxRecDepth 100000 in
set_option maxHeartbeats 4000000 in
theorem lc_then (hF : lp_F p s m meth c b L xs) (hk : 7 * k + 7 ≤ L) (hG : lp_Go p l e s m below meth c b D cy k) (hr : rl_ Mc Mr) (hw : lp_c D cy s ad u Mc ad2 u2 Mr out fo H locs) (hl : lv_has ls 8 (lp_ls b k ad ad2 out)) : lp_W p l e s m below meth c b Mc k H locs (F0 m 1365 ls []) := by
  obtain ⟨r, Mc1, Mr1, ec, er, hr1⟩ := m_then hr (xs (7 * k + 1)) (xs (7 * k + 2)) (xs (7 * k + 3))
  have hmo : Mc.2.2 ≤ Mc1.2.2 := mo_X11_then ec
  have hcap := lp_cap hr1
  have hL := hF.2.2.2
  have hx := hF.1.1
  have hb := hF.1.2.1
  unfold lp_W
  refine lv_aload_n hx hb dL_law_1365 rfl (lv_at hl 1 rfl) ?_
  refine lp_a hF hw.2.2.2.1 hk hl 1 (by decide) (by decide) dL_law_1366 dL_law_1367 dL_law_1369 dL_law_1370 dL_law_1371 ?_
  refine lp_a hF hw.2.2.2.1 hk hl 2 (by decide) (by decide) dL_law_1372 dL_law_1373 dL_law_1375 dL_law_1376 dL_law_1377 ?_
  refine lp_a hF hw.2.2.2.1 hk hl 3 (by decide) (by decide) dL_law_1378 dL_law_1379 dL_law_1381 dL_law_1382 dL_law_1383 ?_
  refine cla_Vi hF.1 hw (c_X11_then ec) hd_X11_then cw_L_137 (Nat.le_of_ble_eq_true rfl) rfl rfl (rest := []) hl.1 rfl (Nat.le_of_ble_eq_true rfl) ⟨(Nat.le_of_ble_eq_true rfl), (Nat.le_of_ble_eq_true rfl)⟩ ⟨lp_n1 hcap hmo hk hL, lp_n2 hcap hmo hk hL⟩ rfl dL_law_1384 (fun u H locs hw => ?_)
  have hw := lp_cr hw
  refine lv_aload_n hx hb dL_law_1387 rfl (lv_at hl 2 rfl) ?_
  refine lp_a hF hw.2.2.2.1 hk hl 1 (by decide) (by decide) dL_law_1388 dL_law_1389 dL_law_1391 dL_law_1392 dL_law_1393 ?_
  refine lp_a hF hw.2.2.2.1 hk hl 2 (by decide) (by decide) dL_law_1394 dL_law_1395 dL_law_1397 dL_law_1398 dL_law_1399 ?_
  refine lp_a hF hw.2.2.2.1 hk hl 3 (by decide) (by decide) dL_law_1400 dL_law_1401 dL_law_1403 dL_law_1404 dL_law_1405 ?_
  refine clc_Vi hF.1 hw (c_X12_then er) hd_X12_then cw_L_140 (Nat.le_of_ble_eq_true rfl) rfl rfl (rest := [.int _]) hl.1 rfl (Nat.le_of_ble_eq_true rfl) ⟨(Nat.le_of_ble_eq_true rfl), (Nat.le_of_ble_eq_true rfl)⟩ ⟨lp_n1 hcap hmo hk hL, lp_n2 hcap hmo hk hL⟩ rfl dL_law_1406 (fun H locs hw => ?_)
  have hw := lp_rc hw
  refine lv_icmp_eq (tgt := 2184) hx hb dL_law_1409 (by decide) (fun _ => ?_) (fun h => absurd rfl h)
  exact lp_end1 hG hr1 hw hl hmo
set_option maxRecDepth 100000 in
set_option maxHeartbeats 4000000 in
theorem lc_eye (hF : lp_F p s m meth c b L xs) (hk : 7 * k + 7 ≤ L) (hG : lp_Go p l e s m below meth c b D cy k) (hr : rl_ Mc Mr) (hw : lp_c D cy s ad u Mc ad2 u2 Mr out fo H locs) (hl : lv_has ls 8 (lp_ls b k ad ad2 out)) : lp_W p l e s m below meth c b Mc k H locs (F0 m 1489 ls []) := by
  obtain ⟨r, Mc1, Mr1, ec, er, hr1⟩ := m_eye hr (xs (7 * k + 1)) (xs (7 * k + 2))
  have hmo : Mc.2.2 ≤ Mc1.2.2 := mo_X11_eye ec
  have hcap := lp_cap hr1
  have hL := hF.2.2.2
  have hx := hF.1.1
  have hb := hF.1.2.1
  unfold lp_W
  refine lv_aload_n hx hb dL_law_1489 rfl (lv_at hl 1 rfl) ?_
  refine lp_a hF hw.2.2.2.1 hk hl 1 (by decide) (by decide) dL_law_1490 dL_law_1491 dL_law_1493 dL_law_1494 dL_law_1495 ?_
  refine lp_a hF hw.2.2.2.1 hk hl 2 (by decide) (by decide) dL_law_1496 dL_law_1497 dL_law_1499 dL_law_1500 dL_law_1501 ?_
  refine cla_Vi hF.1 hw (c_X11_eye ec) hd_X11_eye cw_L_153 (Nat.le_of_ble_eq_true rfl) rfl rfl (rest := []) hl.1 rfl (Nat.le_of_ble_eq_true rfl) ⟨(Nat.le_of_ble_eq_true rfl), (Nat.le_of_ble_eq_true rfl)⟩ ⟨lp_n1 hcap hmo hk hL, lp_n2 hcap hmo hk hL⟩ rfl dL_law_1502 (fun u H locs hw => ?_)
  have hw := lp_cr hw
  refine lv_aload_n hx hb dL_law_1505 rfl (lv_at hl 2 rfl) ?_
  refine lp_a hF hw.2.2.2.1 hk hl 1 (by decide) (by decide) dL_law_1506 dL_law_1507 dL_law_1509 dL_law_1510 dL_law_1511 ?_
  refine lp_a hF hw.2.2.2.1 hk hl 2 (by decide) (by decide) dL_law_1512 dL_law_1513 dL_law_1515 dL_law_1516 dL_law_1517 ?_
  refine clc_Vi hF.1 hw (c_X12_eye er) hd_X12_eye cw_L_156 (Nat.le_of_ble_eq_true rfl) rfl rfl (rest := [.int _]) hl.1 rfl (Nat.le_of_ble_eq_true rfl) ⟨(Nat.le_of_ble_eq_true rfl), (Nat.le_of_ble_eq_true rfl)⟩ ⟨lp_n1 hcap hmo hk hL, lp_n2 hcap hmo hk hL⟩ rfl dL_law_1518 (fun H locs hw => ?_)
  have hw := lp_rc hw
  refine lv_icmp_eq (tgt := 2184) hx hb dL_law_1521 (by decide) (fun _ => ?_) (fun h => absurd rfl h)
  exact lp_end1 hG hr1 hw hl hmo
set_option maxRecDepth 100000 in
set_option maxHeartbeats 4000000 in
theorem lc_might (hF : lp_F p s m meth c b L xs) (hk : 7 * k + 7 ≤ L) (hG : lp_Go p l e s m below meth c b D cy k) (hr : rl_ Mc Mr) (hw : lp_c D cy s ad u Mc ad2 u2 Mr out fo H locs) (hl : lv_has ls 8 (lp_ls b k ad ad2 out)) : lp_W p l e s m below meth c b Mc k H locs (F0 m 1673 ls []) := by
  obtain ⟨r, Mc1, Mr1, ec, er, hr1⟩ := m_might hr (xs (7 * k + 1)) (xs (7 * k + 2)) (xs (7 * k + 3)) (xs (7 * k + 4)) (xs (7 * k + 5)) (xs (7 * k + 6))
  have hmo : Mc.2.2 ≤ Mc1.2.2 := mo_X11_might ec
  have hcap := lp_cap hr1
  have hL := hF.2.2.2
  have hx := hF.1.1
  have hb := hF.1.2.1
  unfold lp_W
  refine lv_aload_n hx hb dL_law_1673 rfl (lv_at hl 1 rfl) ?_
  refine lp_a hF hw.2.2.2.1 hk hl 1 (by decide) (by decide) dL_law_1674 dL_law_1675 dL_law_1677 dL_law_1678 dL_law_1679 ?_
  refine lp_a hF hw.2.2.2.1 hk hl 2 (by decide) (by decide) dL_law_1680 dL_law_1681 dL_law_1683 dL_law_1684 dL_law_1685 ?_
  refine lp_a hF hw.2.2.2.1 hk hl 3 (by decide) (by decide) dL_law_1686 dL_law_1687 dL_law_1689 dL_law_1690 dL_law_1691 ?_
  refine lp_a hF hw.2.2.2.1 hk hl 4 (by decide) (by decide) dL_law_1692 dL_law_1693 dL_law_1695 dL_law_1696 dL_law_1697 ?_
  refine lp_a hF hw.2.2.2.1 hk hl 5 (by decide) (by decide) dL_law_1698 dL_law_1699 dL_law_1701 dL_law_1702 dL_law_1703 ?_
  refine lp_ab hF hw.2.2.2.1 hk hl 6 (by decide) (by decide) dL_law_1704 dL_law_1705 dL_law_1707 dL_law_1709 dL_law_1710 ?_
  refine cla_Vi hF.1 hw (c_X11_might ec) hd_X11_might cw_L_169 (Nat.le_of_ble_eq_true rfl) rfl rfl (rest := []) hl.1 rfl (Nat.le_of_ble_eq_true rfl) ⟨(Nat.le_of_ble_eq_true rfl), (Nat.le_of_ble_eq_true rfl)⟩ ⟨lp_n1 hcap hmo hk hL, lp_n2 hcap hmo hk hL⟩ rfl dL_law_1711 (fun u H locs hw => ?_)
  have hw := lp_cr hw
  refine lv_aload_n hx hb dL_law_1714 rfl (lv_at hl 2 rfl) ?_
  refine lp_a hF hw.2.2.2.1 hk hl 1 (by decide) (by decide) dL_law_1715 dL_law_1716 dL_law_1718 dL_law_1719 dL_law_1720 ?_
  refine lp_a hF hw.2.2.2.1 hk hl 2 (by decide) (by decide) dL_law_1721 dL_law_1722 dL_law_1724 dL_law_1725 dL_law_1726 ?_
  refine lp_a hF hw.2.2.2.1 hk hl 3 (by decide) (by decide) dL_law_1727 dL_law_1728 dL_law_1730 dL_law_1731 dL_law_1732 ?_
  refine lp_a hF hw.2.2.2.1 hk hl 4 (by decide) (by decide) dL_law_1733 dL_law_1734 dL_law_1736 dL_law_1737 dL_law_1738 ?_
  refine lp_a hF hw.2.2.2.1 hk hl 5 (by decide) (by decide) dL_law_1739 dL_law_1740 dL_law_1742 dL_law_1743 dL_law_1744 ?_
  refine lp_ab hF hw.2.2.2.1 hk hl 6 (by decide) (by decide) dL_law_1745 dL_law_1746 dL_law_1748 dL_law_1750 dL_law_1751 ?_
  refine clc_Vi hF.1 hw (c_X12_might er) hd_X12_might cw_L_172 (Nat.le_of_ble_eq_true rfl) rfl rfl (rest := [.int _]) hl.1 rfl (Nat.le_of_ble_eq_true rfl) ⟨(Nat.le_of_ble_eq_true rfl), (Nat.le_of_ble_eq_true rfl)⟩ ⟨lp_n1 hcap hmo hk hL, lp_n2 hcap hmo hk hL⟩ rfl dL_law_1752 (fun H locs hw => ?_)
  have hw := lp_rc hw
  refine lv_icmp_eq (tgt := 2184) hx hb dL_law_1755 (by decide) (fun _ => ?_) (fun h => absurd rfl h)
  exact lp_end1 hG hr1 hw hl hmo
set_option maxRecDepth 100000 in
set_option maxHeartbeats 4000000 in
theorem lc_town (hF : lp_F p s m meth c b L xs) (hk : 7 * k + 7 ≤ L) (hG : lp_Go p l e s m below meth c b D cy k) (hr : rl_ Mc Mr) (hw : lp_c D cy s ad u Mc ad2 u2 Mr out fo H locs) (hl : lv_has ls 8 (lp_ls b k ad ad2 out)) : lp_W p l e s m below meth c b Mc k H locs (F0 m 1883 ls []) := by
  obtain ⟨r, Mc1, Mr1, ec, er, hr1⟩ := m_town hr (xs (7 * k + 1)) (xs (7 * k + 2)) (xs (7 * k + 3)) (xs (7 * k + 4))
  have hmo : Mc.2.2 ≤ Mc1.2.2 := mo_X11_town ec
  have hcap := lp_cap hr1
  have hL := hF.2.2.2
  have hx := hF.1.1
  have hb := hF.1.2.1
  unfold lp_W
  refine lv_aload_n hx hb dL_law_1883 rfl (lv_at hl 1 rfl) ?_
  refine lp_a hF hw.2.2.2.1 hk hl 1 (by decide) (by decide) dL_law_1884 dL_law_1885 dL_law_1887 dL_law_1888 dL_law_1889 ?_
  refine lp_a hF hw.2.2.2.1 hk hl 2 (by decide) (by decide) dL_law_1890 dL_law_1891 dL_law_1893 dL_law_1894 dL_law_1895 ?_
  refine lp_a hF hw.2.2.2.1 hk hl 3 (by decide) (by decide) dL_law_1896 dL_law_1897 dL_law_1899 dL_law_1900 dL_law_1901 ?_
  refine lp_a hF hw.2.2.2.1 hk hl 4 (by decide) (by decide) dL_law_1902 dL_law_1903 dL_law_1905 dL_law_1906 dL_law_1907 ?_
  refine cla_Vi hF.1 hw (c_X11_town ec) hd_X11_town cw_L_185 (Nat.le_of_ble_eq_true rfl) rfl rfl (rest := []) hl.1 rfl (Nat.le_of_ble_eq_true rfl) ⟨(Nat.le_of_ble_eq_true rfl), (Nat.le_of_ble_eq_true rfl)⟩ ⟨lp_n1 hcap hmo hk hL, lp_n2 hcap hmo hk hL⟩ rfl dL_law_1908 (fun u H locs hw => ?_)
  have hw := lp_cr hw
  refine lv_aload_n hx hb dL_law_1911 rfl (lv_at hl 2 rfl) ?_
  refine lp_a hF hw.2.2.2.1 hk hl 1 (by decide) (by decide) dL_law_1912 dL_law_1913 dL_law_1915 dL_law_1916 dL_law_1917 ?_
  refine lp_a hF hw.2.2.2.1 hk hl 2 (by decide) (by decide) dL_law_1918 dL_law_1919 dL_law_1921 dL_law_1922 dL_law_1923 ?_
  refine lp_a hF hw.2.2.2.1 hk hl 3 (by decide) (by decide) dL_law_1924 dL_law_1925 dL_law_1927 dL_law_1928 dL_law_1929 ?_
  refine lp_a hF hw.2.2.2.1 hk hl 4 (by decide) (by decide) dL_law_1930 dL_law_1931 dL_law_1933 dL_law_1934 dL_law_1935 ?_
  refine clc_Vi hF.1 hw (c_X12_town er) hd_X12_town cw_L_188 (Nat.le_of_ble_eq_true rfl) rfl rfl (rest := [.int _]) hl.1 rfl (Nat.le_of_ble_eq_true rfl) ⟨(Nat.le_of_ble_eq_true rfl), (Nat.le_of_ble_eq_true rfl)⟩ ⟨lp_n1 hcap hmo hk hL, lp_n2 hcap hmo hk hL⟩ rfl dL_law_1936 (fun H locs hw => ?_)
  have hw := lp_rc hw
  refine lv_icmp_eq (tgt := 2184) hx hb dL_law_1939 (by decide) (fun _ => ?_) (fun h => absurd rfl h)
  exact lp_end1 hG hr1 hw hl hmo
set_option maxRecDepth 100000 in
set_option maxHeartbeats 4000000 in
theorem lc_count (hF : lp_F p s m meth c b L xs) (hk : 7 * k + 7 ≤ L) (hG : lp_Go p l e s m below meth c b D cy k) (hr : rl_ Mc Mr) (hw : lp_c D cy s ad u Mc ad2 u2 Mr out fo H locs) (hl : lv_has ls 8 (lp_ls b k ad ad2 out)) : lp_W p l e s m below meth c b Mc k H locs (F0 m 2067 ls []) := by
  obtain ⟨Mr1, er, hr1⟩ := m_count hr (xs (7 * k + 1))
  have hmo : Mc.2.2 ≤ Mc.2.2 := Nat.le_refl _
  have hcap := lp_cap hr1
  have hL := hF.2.2.2
  have hx := hF.1.1
  have hb := hF.1.2.1
  unfold lp_W
  refine lv_aload_n hx hb dL_law_2067 rfl (lv_at hl 1 rfl) ?_
  refine lp_a hF hw.2.2.2.1 hk hl 1 (by decide) (by decide) dL_law_2068 dL_law_2069 dL_law_2071 dL_law_2072 dL_law_2073 ?_
  refine clc_Vi hF.1 hw (c_X11_count rfl) hd_X11_count cw_L_201 (Nat.le_of_ble_eq_true rfl) rfl rfl (rest := []) hl.1 rfl (Nat.le_of_ble_eq_true rfl) ⟨(Nat.le_of_ble_eq_true rfl), (Nat.le_of_ble_eq_true rfl)⟩ ⟨lp_n3 hcap hmo hk hL, lp_n4 hcap hmo hk hL⟩ rfl dL_law_2074 (fun H locs hw => ?_)
  have hw := lp_cr hw
  refine lv_aload_n hx hb dL_law_2077 rfl (lv_at hl 2 rfl) ?_
  refine lp_a hF hw.2.2.2.1 hk hl 1 (by decide) (by decide) dL_law_2078 dL_law_2079 dL_law_2081 dL_law_2082 dL_law_2083 ?_
  refine clc_Vi hF.1 hw (c_X12_count er) hd_X12_count cw_L_204 (Nat.le_of_ble_eq_true rfl) rfl rfl (rest := [.int _]) hl.1 rfl (Nat.le_of_ble_eq_true rfl) ⟨(Nat.le_of_ble_eq_true rfl), (Nat.le_of_ble_eq_true rfl)⟩ ⟨lp_n3 hcap hmo hk hL, lp_n4 hcap hmo hk hL⟩ rfl dL_law_2084 (fun H locs hw => ?_)
  have hw := lp_rc hw
  refine lv_icmp_eq (tgt := 2184) hx hb dL_law_2087 (by decide) (fun _ => ?_) (fun h => absurd rfl h)
  exact lp_end0 hG hr1 hw hl hmo
end LAW
