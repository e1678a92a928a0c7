section LAW
variable {p : Program} {l : Launch} {e : Env} {s : State} {m : MethodId} {below : List Frame} {meth : Method} {c : Code} {b L k : Nat} {xs : Nat → Int32} {D : va_G} {cy : Nat → ClassId} {ad ad2 : Nat → Nat} {u u2 : Nat × Nat} {Mc Mr : mm_M} {out : Nat} {fo : Nat → Int64} {H : Heap} {locs : List Loc} {ls : Array Slot}
set_option maxRecDepth 100000 in
set_option maxHeartbeats 4000000 in
theorem lc_end (hF : lp_F p s m meth c b L xs) (hk : 7 * k + 7 ≤ L) (hG : lp_Go p l e s m below meth c b D cy k) (hr : rl_ Mc Mr) (hw : lp_c D cy s ad u Mc ad2 u2 Mr out fo H locs) (hl : lv_has ls 8 (lp_ls b k ad ad2 out)) : lp_W p l e s m below meth c b Mc k H locs (F0 m 265 ls []) := by
  obtain ⟨e1, hr1⟩ := m_end hr (xs (7 * k + 1))
  generalize ec : f_X11_end (xs (7 * k + 1)) Mc = zc at e1 hr1
  generalize er : f_X12_end (xs (7 * k + 1)) Mr = zr at e1 hr1
  obtain ⟨r, Mc1⟩ := zc
  obtain ⟨r2, Mr1⟩ := zr
  cases e1
  have hmo : Mc.2.2 ≤ Mc1.2.2 := mo_X11_end ec
  have hcap := lp_cap hr1
  have hL := hF.2.2.2
  have hx := hF.1.1
  have hb := hF.1.2.1
  unfold lp_W
  refine lv_aload_n hx hb dL_law_265 rfl (lv_at hl 1 rfl) ?_
  refine lp_a hF hw.2.2.2.1 hk hl 1 (by decide) (by decide) dL_law_266 dL_law_267 dL_law_269 dL_law_270 dL_law_271 ?_
  refine clc_Vi hF.1 hw (c_X11_end ec) hd_X11_end cw_L_24 (Nat.le_of_ble_eq_true rfl) rfl rfl (rest := []) hl.1 rfl (Nat.le_of_ble_eq_true rfl) ⟨(Nat.le_of_ble_eq_true rfl), (Nat.le_of_ble_eq_true rfl)⟩ ⟨lp_n3 hcap hmo hk hL, lp_n4 hcap hmo hk hL⟩ rfl dL_law_272 (fun H locs hw => ?_)
  have hw := lp_cr hw
  refine lv_aload_n hx hb dL_law_275 rfl (lv_at hl 2 rfl) ?_
  refine lp_a hF hw.2.2.2.1 hk hl 1 (by decide) (by decide) dL_law_276 dL_law_277 dL_law_279 dL_law_280 dL_law_281 ?_
  refine clc_Vi hF.1 hw (c_X12_end er) hd_X12_end cw_L_28 (Nat.le_of_ble_eq_true rfl) rfl rfl (rest := [.int _]) hl.1 rfl (Nat.le_of_ble_eq_true rfl) ⟨(Nat.le_of_ble_eq_true rfl), (Nat.le_of_ble_eq_true rfl)⟩ ⟨lp_n3 hcap hmo hk hL, lp_n4 hcap hmo hk hL⟩ rfl dL_law_282 (fun H locs hw => ?_)
  have hw := lp_rc hw
  refine lv_icmp_eq (tgt := 2184) hx hb dL_law_285 (by decide) (fun _ => ?_) (fun h => absurd rfl h)
  exact lp_end0 hG hr1 hw hl hmo
set_option maxRecDepth 100000 in
set_option maxHeartbeats 4000000 in
theorem lc_lag (hF : lp_F p s m meth c b L xs) (hk : 7 * k + 7 ≤ L) (hG : lp_Go p l e s m below meth c b D cy k) (hr : rl_ Mc Mr) (hw : lp_c D cy s ad u Mc ad2 u2 Mr out fo H locs) (hl : lv_has ls 8 (lp_ls b k ad ad2 out)) : lp_W p l e s m below meth c b Mc k H locs (F0 m 389 ls []) := by
  obtain ⟨r, Mc1, Mr1, ec, er, hr1⟩ := m_lag hr (xs (7 * k + 1)) (xs (7 * k + 2))
  have hmo : Mc.2.2 ≤ Mc1.2.2 := mo_X11_lag ec
  have hcap := lp_cap hr1
  have hL := hF.2.2.2
  have hx := hF.1.1
  have hb := hF.1.2.1
  unfold lp_W
  refine lv_aload_n hx hb dL_law_389 rfl (lv_at hl 1 rfl) ?_
  refine lp_a hF hw.2.2.2.1 hk hl 1 (by decide) (by decide) dL_law_390 dL_law_391 dL_law_393 dL_law_394 dL_law_395 ?_
  refine lp_a hF hw.2.2.2.1 hk hl 2 (by decide) (by decide) dL_law_396 dL_law_397 dL_law_399 dL_law_400 dL_law_401 ?_
  refine clc_Vi hF.1 hw (c_X11_lag ec) hd_X11_lag cw_L_44 (Nat.le_of_ble_eq_true rfl) rfl rfl (rest := []) hl.1 rfl (Nat.le_of_ble_eq_true rfl) ⟨(Nat.le_of_ble_eq_true rfl), (Nat.le_of_ble_eq_true rfl)⟩ ⟨lp_n3 hcap hmo hk hL, lp_n4 hcap hmo hk hL⟩ rfl dL_law_402 (fun H locs hw => ?_)
  have hw := lp_cr hw
  refine lv_aload_n hx hb dL_law_405 rfl (lv_at hl 2 rfl) ?_
  refine lp_a hF hw.2.2.2.1 hk hl 1 (by decide) (by decide) dL_law_406 dL_law_407 dL_law_409 dL_law_410 dL_law_411 ?_
  refine lp_a hF hw.2.2.2.1 hk hl 2 (by decide) (by decide) dL_law_412 dL_law_413 dL_law_415 dL_law_416 dL_law_417 ?_
  refine clc_Vi hF.1 hw (c_X12_lag er) hd_X12_lag cw_L_47 (Nat.le_of_ble_eq_true rfl) rfl rfl (rest := [.int _]) hl.1 rfl (Nat.le_of_ble_eq_true rfl) ⟨(Nat.le_of_ble_eq_true rfl), (Nat.le_of_ble_eq_true rfl)⟩ ⟨lp_n3 hcap hmo hk hL, lp_n4 hcap hmo hk hL⟩ rfl dL_law_418 (fun H locs hw => ?_)
  have hw := lp_rc hw
  refine lv_icmp_eq (tgt := 2184) hx hb dL_law_421 (by decide) (fun _ => ?_) (fun h => absurd rfl h)
  exact lp_end0 hG hr1 hw hl hmo
set_option maxRecDepth 100000 in
set_option maxHeartbeats 4000000 in
theorem lc_alike (hF : lp_F p s m meth c b L xs) (hk : 7 * k + 7 ≤ L) (hG : lp_Go p l e s m below meth c b D cy k) (hr : rl_ Mc Mr) (hw : lp_c D cy s ad u Mc ad2 u2 Mr out fo H locs) (hl : lv_has ls 8 (lp_ls b k ad ad2 out)) : lp_W p l e s m below meth c b Mc k H locs (F0 m 597 ls []) := by
  obtain ⟨r, Mc1, Mr1, ec, er, hr1⟩ := m_alike hr (xs (7 * k + 1)) (xs (7 * k + 2)) (xs (7 * k + 3)) (xs (7 * k + 4)) (xs (7 * k + 5))
  have hmo : Mc.2.2 ≤ Mc1.2.2 := mo_X11_alike ec
  have hcap := lp_cap hr1
  have hL := hF.2.2.2
  have hx := hF.1.1
  have hb := hF.1.2.1
  unfold lp_W
  refine lv_aload_n hx hb dL_law_597 rfl (lv_at hl 1 rfl) ?_
  refine lp_a hF hw.2.2.2.1 hk hl 1 (by decide) (by decide) dL_law_598 dL_law_599 dL_law_601 dL_law_602 dL_law_603 ?_
  refine lp_a hF hw.2.2.2.1 hk hl 2 (by decide) (by decide) dL_law_604 dL_law_605 dL_law_607 dL_law_608 dL_law_609 ?_
  refine lp_a hF hw.2.2.2.1 hk hl 3 (by decide) (by decide) dL_law_610 dL_law_611 dL_law_613 dL_law_614 dL_law_615 ?_
  refine lp_a hF hw.2.2.2.1 hk hl 4 (by decide) (by decide) dL_law_616 dL_law_617 dL_law_619 dL_law_620 dL_law_621 ?_
  refine lp_a hF hw.2.2.2.1 hk hl 5 (by decide) (by decide) dL_law_622 dL_law_623 dL_law_625 dL_law_626 dL_law_627 ?_
  refine cla_Vi hF.1 hw (c_X11_alike ec) hd_X11_alike cw_L_61 (Nat.le_of_ble_eq_true rfl) rfl rfl (rest := []) hl.1 rfl (Nat.le_of_ble_eq_true rfl) ⟨(Nat.le_of_ble_eq_true rfl), (Nat.le_of_ble_eq_true rfl)⟩ ⟨lp_n1 hcap hmo hk hL, lp_n2 hcap hmo hk hL⟩ rfl dL_law_628 (fun u H locs hw => ?_)
  have hw := lp_cr hw
  refine lv_aload_n hx hb dL_law_631 rfl (lv_at hl 2 rfl) ?_
  refine lp_a hF hw.2.2.2.1 hk hl 1 (by decide) (by decide) dL_law_632 dL_law_633 dL_law_635 dL_law_636 dL_law_637 ?_
  refine lp_a hF hw.2.2.2.1 hk hl 2 (by decide) (by decide) dL_law_638 dL_law_639 dL_law_641 dL_law_642 dL_law_643 ?_
  refine lp_a hF hw.2.2.2.1 hk hl 3 (by decide) (by decide) dL_law_644 dL_law_645 dL_law_647 dL_law_648 dL_law_649 ?_
  refine lp_a hF hw.2.2.2.1 hk hl 4 (by decide) (by decide) dL_law_650 dL_law_651 dL_law_653 dL_law_654 dL_law_655 ?_
  refine lp_a hF hw.2.2.2.1 hk hl 5 (by decide) (by decide) dL_law_656 dL_law_657 dL_law_659 dL_law_660 dL_law_661 ?_
  refine clc_Vi hF.1 hw (c_X12_alike er) hd_X12_alike cw_L_65 (Nat.le_of_ble_eq_true rfl) rfl rfl (rest := [.int _]) hl.1 rfl (Nat.le_of_ble_eq_true rfl) ⟨(Nat.le_of_ble_eq_true rfl), (Nat.le_of_ble_eq_true rfl)⟩ ⟨lp_n1 hcap hmo hk hL, lp_n2 hcap hmo hk hL⟩ rfl dL_law_662 (fun H locs hw => ?_)
  have hw := lp_rc hw
  refine lv_icmp_eq (tgt := 2184) hx hb dL_law_665 (by decide) (fun _ => ?_) (fun h => absurd rfl h)
  exact lp_end1 hG hr1 hw hl hmo
set_option maxRecDepth 100000 in
set_option maxHeartbeats 4000000 in
theorem lc_works (hF : lp_F p s m meth c b L xs) (hk : 7 * k + 7 ≤ L) (hG : lp_Go p l e s m below meth c b D cy k) (hr : rl_ Mc Mr) (hw : lp_c D cy s ad u Mc ad2 u2 Mr out fo H locs) (hl : lv_has ls 8 (lp_ls b k ad ad2 out)) : lp_W p l e s m below meth c b Mc k H locs (F0 m 841 ls []) := by
  obtain ⟨r, Mc1, Mr1, ec, er, hr1⟩ := m_works hr (xs (7 * k + 1)) (xs (7 * k + 2)) (xs (7 * k + 3)) (xs (7 * k + 4))
  have hmo : Mc.2.2 ≤ Mc1.2.2 := mo_X11_works ec
  have hcap := lp_cap hr1
  have hL := hF.2.2.2
  have hx := hF.1.1
  have hb := hF.1.2.1
  unfold lp_W
  refine lv_aload_n hx hb dL_law_841 rfl (lv_at hl 1 rfl) ?_
  refine lp_a hF hw.2.2.2.1 hk hl 1 (by decide) (by decide) dL_law_842 dL_law_843 dL_law_845 dL_law_846 dL_law_847 ?_
  refine lp_a hF hw.2.2.2.1 hk hl 2 (by decide) (by decide) dL_law_848 dL_law_849 dL_law_851 dL_law_852 dL_law_853 ?_
  refine lp_a hF hw.2.2.2.1 hk hl 3 (by decide) (by decide) dL_law_854 dL_law_855 dL_law_857 dL_law_858 dL_law_859 ?_
  refine lp_a hF hw.2.2.2.1 hk hl 4 (by decide) (by decide) dL_law_860 dL_law_861 dL_law_863 dL_law_864 dL_law_865 ?_
  refine cla_Vi hF.1 hw (c_X11_works ec) hd_X11_works cw_L_78 (Nat.le_of_ble_eq_true rfl) rfl rfl (rest := []) hl.1 rfl (Nat.le_of_ble_eq_true rfl) ⟨(Nat.le_of_ble_eq_true rfl), (Nat.le_of_ble_eq_true rfl)⟩ ⟨lp_n1 hcap hmo hk hL, lp_n2 hcap hmo hk hL⟩ rfl dL_law_866 (fun u H locs hw => ?_)
  have hw := lp_cr hw
  refine lv_aload_n hx hb dL_law_869 rfl (lv_at hl 2 rfl) ?_
  refine lp_a hF hw.2.2.2.1 hk hl 1 (by decide) (by decide) dL_law_870 dL_law_871 dL_law_873 dL_law_874 dL_law_875 ?_
  refine lp_a hF hw.2.2.2.1 hk hl 2 (by decide) (by decide) dL_law_876 dL_law_877 dL_law_879 dL_law_880 dL_law_881 ?_
  refine lp_a hF hw.2.2.2.1 hk hl 3 (by decide) (by decide) dL_law_882 dL_law_883 dL_law_885 dL_law_886 dL_law_887 ?_
  refine lp_a hF hw.2.2.2.1 hk hl 4 (by decide) (by decide) dL_law_888 dL_law_889 dL_law_891 dL_law_892 dL_law_893 ?_
  refine clc_Vi hF.1 hw (c_X12_works er) hd_X12_works cw_L_81 (Nat.le_of_ble_eq_true rfl) rfl rfl (rest := [.int _]) hl.1 rfl (Nat.le_of_ble_eq_true rfl) ⟨(Nat.le_of_ble_eq_true rfl), (Nat.le_of_ble_eq_true rfl)⟩ ⟨lp_n1 hcap hmo hk hL, lp_n2 hcap hmo hk hL⟩ rfl dL_law_894 (fun H locs hw => ?_)
  have hw := lp_rc hw
  refine lv_icmp_eq (tgt := 2184) hx hb dL_law_897 (by decide) (fun _ => ?_) (fun h => absurd rfl h)
  exact lp_end1 hG hr1 hw hl hmo
set_option maxRecDepth 100000 in
set_option maxHeartbeats 4000000 in
theorem lc_fits (hF : lp_F p s m meth c b L xs) (hk : 7 * k + 7 ≤ L) (hG : lp_Go p l e s m below meth c b D cy k) (hr : rl_ Mc Mr) (hw : lp_c D cy s ad u Mc ad2 u2 Mr out fo H locs) (hl : lv_has ls 8 (lp_ls b k ad ad2 out)) : lp_W p l e s m below meth c b Mc k H locs (F0 m 1128 ls []) := by
  obtain ⟨r, Mc1, Mr1, ec, er, hr1⟩ := m_fits hr 
  have hmo : Mc.2.2 ≤ Mc1.2.2 := mo_X11_fits ec
  have hcap := lp_cap hr1
  have hL := hF.2.2.2
  have hx := hF.1.1
  have hb := hF.1.2.1
  unfold lp_W
  refine lv_aload_n hx hb dL_law_1128 rfl (lv_at hl 1 rfl) ?_
  refine cla_Vi hF.1 hw (c_X11_fits ec) hd_X11_fits cw_L_101 (Nat.le_of_ble_eq_true rfl) rfl rfl (rest := []) hl.1 rfl (Nat.le_of_ble_eq_true rfl) ⟨(Nat.le_of_ble_eq_true rfl), (Nat.le_of_ble_eq_true rfl)⟩ ⟨lp_n1 hcap hmo hk hL, lp_n2 hcap hmo hk hL⟩ rfl dL_law_1129 (fun u H locs hw => ?_)
  have hw := lp_cr hw
  refine lv_aload_n hx hb dL_law_1132 rfl (lv_at hl 2 rfl) ?_
  refine clc_Vi hF.1 hw (c_X12_fits er) hd_X12_fits cw_L_104 (Nat.le_of_ble_eq_true rfl) rfl rfl (rest := [.int _]) hl.1 rfl (Nat.le_of_ble_eq_true rfl) ⟨(Nat.le_of_ble_eq_true rfl), (Nat.le_of_ble_eq_true rfl)⟩ ⟨lp_n1 hcap hmo hk hL, lp_n2 hcap hmo hk hL⟩ rfl dL_law_1133 (fun H locs hw => ?_)
  have hw := lp_rc hw
  refine lv_icmp_eq (tgt := 2184) hx hb dL_law_1136 (by decide) (fun _ => ?_) (fun h => absurd rfl h)
  exact lp_end1 hG hr1 hw hl hmo
set_option maxRecDepth 100000 in
set_option maxHeartbeats 4000000 in
theorem lc_blunder (hF : lp_F p s m meth c b L xs) (hk : 7 * k + 7 ≤ L) (hG : lp_Go p l e s m below meth c b D cy k) (hr : rl_ Mc Mr) (hw : lp_c D cy s ad u Mc ad2 u2 Mr out fo H locs) (hl : lv_has ls 8 (lp_ls b k ad ad2 out)) : lp_W p l e s m below meth c b Mc k H locs (F0 m 1228 ls []) := by
  obtain ⟨r, Mc1, Mr1, ec, er, hr1⟩ := m_blunder hr 
  have hmo : Mc.2.2 ≤ Mc1.2.2 := mo_X11_blunder ec
  have hcap := lp_cap hr1
  have hL := hF.2.2.2
  have hx := hF.1.1
  have hb := hF.1.2.1
  unfold lp_W
  refine lv_aload_n hx hb dL_law_1228 rfl (lv_at hl 1 rfl) ?_
  refine cla_Vi hF.1 hw (c_X11_blunder ec) hd_X11_blunder cw_L_117 (Nat.le_of_ble_eq_true rfl) rfl rfl (rest := []) hl.1 rfl (Nat.le_of_ble_eq_true rfl) ⟨(Nat.le_of_ble_eq_true rfl), (Nat.le_of_ble_eq_true rfl)⟩ ⟨lp_n1 hcap hmo hk hL, lp_n2 hcap hmo hk hL⟩ rfl dL_law_1229 (fun u H locs hw => ?_)
  have hw := lp_cr hw
  refine lv_aload_n hx hb dL_law_1232 rfl (lv_at hl 2 rfl) ?_
  refine clc_Vi hF.1 hw (c_X12_blunder er) hd_X12_blunder cw_L_120 (Nat.le_of_ble_eq_true rfl) rfl rfl (rest := [.int _]) hl.1 rfl (Nat.le_of_ble_eq_true rfl) ⟨(Nat.le_of_ble_eq_true rfl), (Nat.le_of_ble_eq_true rfl)⟩ ⟨lp_n1 hcap hmo hk hL, lp_n2 hcap hmo hk hL⟩ rfl dL_law_1233 (fun H locs hw => ?_)
  have hw := lp_rc hw
  refine lv_icmp_eq (tgt := 2184) hx hb dL_law_1236 (by decide) (fun _ => ?_) (fun h => absurd rfl h)
  exact lp_end1 hG hr1 hw hl hmo
set_option maxRecDepth 100000 in
set_option maxHeartbeats 4000000 in
theorem lc_odds (hF : lp_F p s m meth c b L xs) (hk : 7 * k + 7 ≤ L) (hG : lp_Go p l e s m below meth c b D cy k) (hr : rl_ Mc Mr) (hw : lp_c D cy s ad u Mc ad2 u2 Mr out fo H locs) (hl : lv_has ls 8 (lp_ls b k ad ad2 out)) : lp_W p l e s m below meth c b Mc k H locs (F0 m 1340 ls []) := by
  obtain ⟨r, Mc1, Mr1, ec, er, hr1⟩ := m_odds hr (xs (7 * k + 1))
  have hmo : Mc.2.2 ≤ Mc1.2.2 := mo_X11_odds ec
  have hcap := lp_cap hr1
  have hL := hF.2.2.2
  have hx := hF.1.1
  have hb := hF.1.2.1
  unfold lp_W
  refine lv_aload_n hx hb dL_law_1340 rfl (lv_at hl 1 rfl) ?_
  refine lp_a hF hw.2.2.2.1 hk hl 1 (by decide) (by decide) dL_law_1341 dL_law_1342 dL_law_1344 dL_law_1345 dL_law_1346 ?_
  refine cla_Vi hF.1 hw (c_X11_odds ec) hd_X11_odds cw_L_133 (Nat.le_of_ble_eq_true rfl) rfl rfl (rest := []) hl.1 rfl (Nat.le_of_ble_eq_true rfl) ⟨(Nat.le_of_ble_eq_true rfl), (Nat.le_of_ble_eq_true rfl)⟩ ⟨lp_n1 hcap hmo hk hL, lp_n2 hcap hmo hk hL⟩ rfl dL_law_1347 (fun u H locs hw => ?_)
  have hw := lp_cr hw
  refine lv_aload_n hx hb dL_law_1350 rfl (lv_at hl 2 rfl) ?_
  refine lp_a hF hw.2.2.2.1 hk hl 1 (by decide) (by decide) dL_law_1351 dL_law_1352 dL_law_1354 dL_law_1355 dL_law_1356 ?_
  refine clc_Vi hF.1 hw (c_X12_odds er) hd_X12_odds cw_L_136 (Nat.le_of_ble_eq_true rfl) rfl rfl (rest := [.int _]) hl.1 rfl (Nat.le_of_ble_eq_true rfl) ⟨(Nat.le_of_ble_eq_true rfl), (Nat.le_of_ble_eq_true rfl)⟩ ⟨lp_n1 hcap hmo hk hL, lp_n2 hcap hmo hk hL⟩ rfl dL_law_1357 (fun H locs hw => ?_)
  have hw := lp_rc hw
  refine lv_icmp_eq (tgt := 2184) hx hb dL_law_1360 (by decide) (fun _ => ?_) (fun h => absurd rfl h)
  exact lp_end1 hG hr1 hw hl hmo
set_option maxRecDepth 100000 in
set_option maxHeartbeats 4000000 in
theorem lc_next (hF : lp_F p s m meth c b L xs) (hk : 7 * k + 7 ≤ L) (hG : lp_Go p l e s m below meth c b D cy k) (hr : rl_ Mc Mr) (hw : lp_c D cy s ad u Mc ad2 u2 Mr out fo H locs) (hl : lv_has ls 8 (lp_ls b k ad ad2 out)) : lp_W p l e s m below meth c b Mc k H locs (F0 m 1476 ls []) := by
  obtain ⟨r, Mc1, Mr1, ec, er, hr1⟩ := m_next hr 
  have hmo : Mc.2.2 ≤ Mc1.2.2 := mo_X11_next ec
  have hcap := lp_cap hr1
  have hL := hF.2.2.2
  have hx := hF.1.1
  have hb := hF.1.2.1
  unfold lp_W
  refine lv_aload_n hx hb dL_law_1476 rfl (lv_at hl 1 rfl) ?_
  refine cla_Vi hF.1 hw (c_X11_next ec) hd_X11_next cw_L_149 (Nat.le_of_ble_eq_true rfl) rfl rfl (rest := []) hl.1 rfl (Nat.le_of_ble_eq_true rfl) ⟨(Nat.le_of_ble_eq_true rfl), (Nat.le_of_ble_eq_true rfl)⟩ ⟨lp_n1 hcap hmo hk hL, lp_n2 hcap hmo hk hL⟩ rfl dL_law_1477 (fun u H locs hw => ?_)
  have hw := lp_cr hw
  refine lv_aload_n hx hb dL_law_1480 rfl (lv_at hl 2 rfl) ?_
  refine clc_Vi hF.1 hw (c_X12_next er) hd_X12_next cw_L_152 (Nat.le_of_ble_eq_true rfl) rfl rfl (rest := [.int _]) hl.1 rfl (Nat.le_of_ble_eq_true rfl) ⟨(Nat.le_of_ble_eq_true rfl), (Nat.le_of_ble_eq_true rfl)⟩ ⟨lp_n1 hcap hmo hk hL, lp_n2 hcap hmo hk hL⟩ rfl dL_law_1481 (fun H locs hw => ?_)
  have hw := lp_rc hw
  refine lv_icmp_eq (tgt := 2184) hx hb dL_law_1484 (by decide) (fun _ => ?_) (fun h => absurd rfl h)
  exact lp_end1 hG hr1 hw hl hmo
set_option maxRecDepth 100000 in
set_option maxHeartbeats 4000000 in
theorem lc_stage (hF : lp_F p s m meth c b L xs) (hk : 7 * k + 7 ≤ L) (hG : lp_Go p l e s m below meth c b D cy k) (hr : rl_ Mc Mr) (hw : lp_c D cy s ad u Mc ad2 u2 Mr out fo H locs) (hl : lv_has ls 8 (lp_ls b k ad ad2 out)) : lp_W p l e s m below meth c b Mc k H locs (F0 m 1600 ls []) := by
  obtain ⟨r, Mc1, Mr1, ec, er, hr1⟩ := m_stage hr (xs (7 * k + 1)) (xs (7 * k + 2)) (xs (7 * k + 3)) (xs (7 * k + 4)) (xs (7 * k + 5))
  have hmo : Mc.2.2 ≤ Mc1.2.2 := mo_X11_stage ec
  have hcap := lp_cap hr1
  have hL := hF.2.2.2
  have hx := hF.1.1
  have hb := hF.1.2.1
  unfold lp_W
  refine lv_aload_n hx hb dL_law_1600 rfl (lv_at hl 1 rfl) ?_
  refine lp_a hF hw.2.2.2.1 hk hl 1 (by decide) (by decide) dL_law_1601 dL_law_1602 dL_law_1604 dL_law_1605 dL_law_1606 ?_
  refine lp_a hF hw.2.2.2.1 hk hl 2 (by decide) (by decide) dL_law_1607 dL_law_1608 dL_law_1610 dL_law_1611 dL_law_1612 ?_
  refine lp_a hF hw.2.2.2.1 hk hl 3 (by decide) (by decide) dL_law_1613 dL_law_1614 dL_law_1616 dL_law_1617 dL_law_1618 ?_
  refine lp_a hF hw.2.2.2.1 hk hl 4 (by decide) (by decide) dL_law_1619 dL_law_1620 dL_law_1622 dL_law_1623 dL_law_1624 ?_
  refine lp_a hF hw.2.2.2.1 hk hl 5 (by decide) (by decide) dL_law_1625 dL_law_1626 dL_law_1628 dL_law_1629 dL_law_1630 ?_
  refine cla_Vi hF.1 hw (c_X11_stage ec) hd_X11_stage cw_L_165 (Nat.le_of_ble_eq_true rfl) rfl rfl (rest := []) hl.1 rfl (Nat.le_of_ble_eq_true rfl) ⟨(Nat.le_of_ble_eq_true rfl), (Nat.le_of_ble_eq_true rfl)⟩ ⟨lp_n1 hcap hmo hk hL, lp_n2 hcap hmo hk hL⟩ rfl dL_law_1631 (fun u H locs hw => ?_)
  have hw := lp_cr hw
  refine lv_aload_n hx hb dL_law_1634 rfl (lv_at hl 2 rfl) ?_
  refine lp_a hF hw.2.2.2.1 hk hl 1 (by decide) (by decide) dL_law_1635 dL_law_1636 dL_law_1638 dL_law_1639 dL_law_1640 ?_
  refine lp_a hF hw.2.2.2.1 hk hl 2 (by decide) (by decide) dL_law_1641 dL_law_1642 dL_law_1644 dL_law_1645 dL_law_1646 ?_
  refine lp_a hF hw.2.2.2.1 hk hl 3 (by decide) (by decide) dL_law_1647 dL_law_1648 dL_law_1650 dL_law_1651 dL_law_1652 ?_
  refine lp_a hF hw.2.2.2.1 hk hl 4 (by decide) (by decide) dL_law_1653 dL_law_1654 dL_law_1656 dL_law_1657 dL_law_1658 ?_
  refine lp_a hF hw.2.2.2.1 hk hl 5 (by decide) (by decide) dL_law_1659 dL_law_1660 dL_law_1662 dL_law_1663 dL_law_1664 ?_
  refine clc_Vi hF.1 hw (c_X12_stage er) hd_X12_stage cw_L_168 (Nat.le_of_ble_eq_true rfl) rfl rfl (rest := [.int _]) hl.1 rfl (Nat.le_of_ble_eq_true rfl) ⟨(Nat.le_of_ble_eq_true rfl), (Nat.le_of_ble_eq_true rfl)⟩ ⟨lp_n1 hcap hmo hk hL, lp_n2 hcap hmo hk hL⟩ rfl dL_law_1665 (fun H locs hw => ?_)
  have hw := lp_rc hw
  refine lv_icmp_eq (tgt := 2184) hx hb dL_law_1668 (by decide) (fun _ => ?_) (fun h => absurd rfl h)
  exact lp_end1 hG hr1 hw hl hmo
set_option maxRecDepth 100000 in
set_option maxHeartbeats 4000000 in
theorem lc_fell (hF : lp_F p s m meth c b L xs) (hk : 7 * k + 7 ≤ L) (hG : lp_Go p l e s m below meth c b D cy k) (hr : rl_ Mc Mr) (hw : lp_c D cy s ad u Mc ad2 u2 Mr out fo H locs) (hl : lv_has ls 8 (lp_ls b k ad ad2 out)) : lp_W p l e s m below meth c b Mc k H locs (F0 m 1834 ls []) := by
  obtain ⟨r, Mc1, Mr1, ec, er, hr1⟩ := m_fell hr (xs (7 * k + 1)) (xs (7 * k + 2)) (xs (7 * k + 3))
  have hmo : Mc.2.2 ≤ Mc1.2.2 := mo_X11_fell ec
  have hcap := lp_cap hr1
  have hL := hF.2.2.2
  have hx := hF.1.1
  have hb := hF.1.2.1
  unfold lp_W
  refine lv_aload_n hx hb dL_law_1834 rfl (lv_at hl 1 rfl) ?_
  refine lp_a hF hw.2.2.2.1 hk hl 1 (by decide) (by decide) dL_law_1835 dL_law_1836 dL_law_1838 dL_law_1839 dL_law_1840 ?_
  refine lp_a hF hw.2.2.2.1 hk hl 2 (by decide) (by decide) dL_law_1841 dL_law_1842 dL_law_1844 dL_law_1845 dL_law_1846 ?_
  refine lp_a hF hw.2.2.2.1 hk hl 3 (by decide) (by decide) dL_law_1847 dL_law_1848 dL_law_1850 dL_law_1851 dL_law_1852 ?_
  refine cla_Vi hF.1 hw (c_X11_fell ec) hd_X11_fell cw_L_181 (Nat.le_of_ble_eq_true rfl) rfl rfl (rest := []) hl.1 rfl (Nat.le_of_ble_eq_true rfl) ⟨(Nat.le_of_ble_eq_true rfl), (Nat.le_of_ble_eq_true rfl)⟩ ⟨lp_n1 hcap hmo hk hL, lp_n2 hcap hmo hk hL⟩ rfl dL_law_1853 (fun u H locs hw => ?_)
  have hw := lp_cr hw
  refine lv_aload_n hx hb dL_law_1856 rfl (lv_at hl 2 rfl) ?_
  refine lp_a hF hw.2.2.2.1 hk hl 1 (by decide) (by decide) dL_law_1857 dL_law_1858 dL_law_1860 dL_law_1861 dL_law_1862 ?_
  refine lp_a hF hw.2.2.2.1 hk hl 2 (by decide) (by decide) dL_law_1863 dL_law_1864 dL_law_1866 dL_law_1867 dL_law_1868 ?_
  refine lp_a hF hw.2.2.2.1 hk hl 3 (by decide) (by decide) dL_law_1869 dL_law_1870 dL_law_1872 dL_law_1873 dL_law_1874 ?_
  refine clc_Vi hF.1 hw (c_X12_fell er) hd_X12_fell cw_L_184 (Nat.le_of_ble_eq_true rfl) rfl rfl (rest := [.int _]) hl.1 rfl (Nat.le_of_ble_eq_true rfl) ⟨(Nat.le_of_ble_eq_true rfl), (Nat.le_of_ble_eq_true rfl)⟩ ⟨lp_n1 hcap hmo hk hL, lp_n2 hcap hmo hk hL⟩ rfl dL_law_1875 (fun H locs hw => ?_)
  have hw := lp_rc hw
  refine lv_icmp_eq (tgt := 2184) hx hb dL_law_1878 (by decide) (fun _ => ?_) (fun h => absurd rfl h)
  exact lp_end1 hG hr1 hw hl hmo
set_option maxRecDepth 100000 in
set_option maxHeartbeats 4000000 in
theorem lc_again (hF : lp_F p s m meth c b L xs) (hk : 7 * k + 7 ≤ L) (hG : lp_Go p l e s m below meth c b D cy k) (hr : rl_ Mc Mr) (hw : lp_c D cy s ad u Mc ad2 u2 Mr out fo H locs) (hl : lv_has ls 8 (lp_ls b k ad ad2 out)) : lp_W p l e s m below meth c b Mc k H locs (F0 m 2042 ls []) := by
  obtain ⟨r, Mc1, Mr1, ec, er, hr1⟩ := m_again hr (xs (7 * k + 1))
  have hmo : Mc.2.2 ≤ Mc1.2.2 := mo_X11_again ec
  have hcap := lp_cap hr1
  have hL := hF.2.2.2
  have hx := hF.1.1
  have hb := hF.1.2.1
  unfold lp_W
  refine lv_aload_n hx hb dL_law_2042 rfl (lv_at hl 1 rfl) ?_
  refine lp_a hF hw.2.2.2.1 hk hl 1 (by decide) (by decide) dL_law_2043 dL_law_2044 dL_law_2046 dL_law_2047 dL_law_2048 ?_
  refine clc_Vi hF.1 hw (c_X11_again ec) hd_X11_again cw_L_197 (Nat.le_of_ble_eq_true rfl) rfl rfl (rest := []) hl.1 rfl (Nat.le_of_ble_eq_true rfl) ⟨(Nat.le_of_ble_eq_true rfl), (Nat.le_of_ble_eq_true rfl)⟩ ⟨lp_n3 hcap hmo hk hL, lp_n4 hcap hmo hk hL⟩ rfl dL_law_2049 (fun H locs hw => ?_)
  have hw := lp_cr hw
  refine lv_aload_n hx hb dL_law_2052 rfl (lv_at hl 2 rfl) ?_
  refine lp_a hF hw.2.2.2.1 hk hl 1 (by decide) (by decide) dL_law_2053 dL_law_2054 dL_law_2056 dL_law_2057 dL_law_2058 ?_
  refine clc_Vi hF.1 hw (c_X12_again er) hd_X12_again cw_L_200 (Nat.le_of_ble_eq_true rfl) rfl rfl (rest := [.int _]) hl.1 rfl (Nat.le_of_ble_eq_true rfl) ⟨(Nat.le_of_ble_eq_true rfl), (Nat.le_of_ble_eq_true rfl)⟩ ⟨lp_n3 hcap hmo hk hL, lp_n4 hcap hmo hk hL⟩ rfl dL_law_2059 (fun H locs hw => ?_)
  have hw := lp_rc hw
  refine lv_icmp_eq (tgt := 2184) hx hb dL_law_2062 (by decide) (fun _ => ?_) (fun h => absurd rfl h)
  exact lp_end0 hG hr1 hw hl hmo
end LAW
