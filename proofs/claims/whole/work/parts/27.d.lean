section LAW
variable {p : Program} {l : Launch} {e : Env} {s : State} {m : MethodId} {below : List Frame} {meth : Method} {c : Code} {b L k : Nat} {xs : Nat → Int32} {D : va_G} {cy : Nat → ClassId} {ad ad2 : Nat → Nat} {u u2 : Nat × Nat} {Mc Mr : mm_M} {out : Nat} {fo : Nat → Int64} {H : Heap} {locs : List Loc} {ls : Array Slot}
/-- 'x != 0' laid as 1 or 0 -/
theorem lp_nz {R : Room} {cells slots : Nat} {Q : State → Prop} {rest : List Value} {pc : Nat} {x : Int32} (hF : lp_F p s m meth c b L xs) (d0 : decode code pc = .ok (.ifCond .eq 7, 3)) (d1 : decode code (pc + 3) = .ok (.iconst 1, 1)) (d2 : decode code (pc + 3 + 1) = .ok (.goto 4, 3)) (d3 : decode code (pc + 7) = .ok (.iconst 0, 1))
    (kk : W p l e R s m #[Value.ref b] below meth c H locs cells slots Q (F0 m (pc + 8) ls (.int (bi_ (decide (x ≠ 0))) :: rest))) : W p l e R s m #[Value.ref b] below meth c H locs cells slots Q (F0 m pc ls (.int x :: rest)) := by
  refine lv_if_eq (tgt := pc + 7) hF.1.1 hF.1.2.1 d0 (by omega) (fun h => ?_) (fun h => ?_)
  · refine lv_iconst (v := 0) hF.1.1 hF.1.2.1 d3 (by decide) ?_
    have e1 : bi_ (decide (x ≠ 0)) = 0 := by rw [decide_eq_false (fun q => q h)]; rfl
    rw [e1] at kk
    exact kk
  · refine lv_iconst (v := 1) hF.1.1 hF.1.2.1 d1 (by decide) ?_
    refine lv_goto (tgt := pc + 8) hF.1.1 hF.1.2.1 d2 (by omega) ?_
    have e1 : bi_ (decide (x ≠ 0)) = 1 := by rw [decide_eq_true h]; rfl
    rw [e1] at kk
    exact kk
set_option maxRecDepth 100000 in
set_option maxHeartbeats 4000000 in
theorem lc_turn (hF : lp_F p s m meth c b L xs) (hk : 7 * k + 7 ≤ L) (hG : lp_Go p l e s m below meth c b D cy k) (hr : rl_ Mc Mr) (hw : lp_c D cy s ad u Mc ad2 u2 Mr out fo H locs) (hl : lv_has ls 8 (lp_ls b k ad ad2 out)) : lp_W p l e s m below meth c b Mc k H locs (F0 m 1038 ls []) := by
  obtain ⟨Mr1, er, hr1⟩ := m_turn hr (xs (7 * k + 1)) (decide (xs (7 * k + 2) ≠ 0))
  generalize ec : f_X11_turn (xs (7 * k + 1)) (bi_ (decide (xs (7 * k + 2) ≠ 0))) Mc = zc at er hr1
  obtain ⟨r, Mc1⟩ := zc
  have hmo : Mc.2.2 ≤ Mc1.2.2 := mo_X11_turn ec
  have hcap := lp_cap hr1
  have hL := hF.2.2.2
  have hx := hF.1.1
  have hb := hF.1.2.1
  unfold lp_W
  refine lv_aload_n hx hb dL_law_1038 rfl (lv_at hl 1 rfl) ?_
  refine lp_a hF hw.2.2.2.1 hk hl 1 (by decide) (by decide) dL_law_1039 dL_law_1040 dL_law_1042 dL_law_1043 dL_law_1044 ?_
  refine lp_a hF hw.2.2.2.1 hk hl 2 (by decide) (by decide) dL_law_1045 dL_law_1046 dL_law_1048 dL_law_1049 dL_law_1050 ?_
  refine lp_nz hF dL_law_1051 dL_law_1054 dL_law_1055 dL_law_1058 ?_
  refine clc_Vi hF.1 hw (c_X11_turn ec) hd_X11_turn cw_L_92 (Nat.le_of_ble_eq_true rfl) rfl rfl (rest := []) hl.1 rfl (Nat.le_of_ble_eq_true rfl) ⟨(Nat.le_of_ble_eq_true rfl), (Nat.le_of_ble_eq_true rfl)⟩ ⟨lp_n3 hcap hmo hk hL, lp_n4 hcap hmo hk hL⟩ rfl dL_law_1059 (fun H locs hw => ?_)
  have hw := lp_cr hw
  refine lv_aload_n hx hb dL_law_1062 rfl (lv_at hl 2 rfl) ?_
  refine lp_a hF hw.2.2.2.1 hk hl 1 (by decide) (by decide) dL_law_1063 dL_law_1064 dL_law_1066 dL_law_1067 dL_law_1068 ?_
  refine lp_a hF hw.2.2.2.1 hk hl 2 (by decide) (by decide) dL_law_1069 dL_law_1070 dL_law_1072 dL_law_1073 dL_law_1074 ?_
  refine lp_nz hF dL_law_1075 dL_law_1078 dL_law_1079 dL_law_1082 ?_
  refine clc_Vi hF.1 hw (c_X12_turn er) hd_X12_turn cw_L_96 (Nat.le_of_ble_eq_true rfl) rfl rfl (rest := [.int _]) hl.1 rfl (Nat.le_of_ble_eq_true rfl) ⟨(Nat.le_of_ble_eq_true rfl), (Nat.le_of_ble_eq_true rfl)⟩ ⟨lp_n3 hcap hmo hk hL, lp_n4 hcap hmo hk hL⟩ rfl dL_law_1083 (fun H locs hw => ?_)
  have hw := lp_rc hw
  refine lv_icmp_eq (tgt := 2184) hx hb dL_law_1086 (by decide) (fun _ => ?_) (fun h => absurd rfl h)
  exact lp_end0 hG hr1 hw hl hmo
end LAW
