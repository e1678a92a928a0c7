theorem lp_perm2 {α : Type} {A B C E : List α} {o : α} : (A ++ (B ++ (C ++ (E ++ [o])))).Perm (A ++ (B ++ (o :: (C ++ (E ++ []))))) := by
  refine List.Perm.append_left _ (List.Perm.append_left _ ?_)
  rw [List.append_nil, ← List.append_assoc]
  exact List.perm_append_singleton o (C ++ E)
theorem lp_to {T T2 : wd_T} {D : va_G} {cy : Nat → ClassId} {z0 : Nat} {ad ad2 : Nat → Nat} {u u2 : Nat × Nat} {M M2 : mm_M} {out : Nat} {fo : Nat → Int64} {s : State} {H : Heap} {locs : List Loc} (hw : wd_in T D cy z0 ad u M (wd_ws T2 cy ad2 u2 M2 (lp_o cy out fo)) s H locs) : wd_in T D cy z0 ad u M (rx_o cy out fo (wd_ws T2 cy ad2 u2 M2 [])) s H locs :=
  ⟨hw.1, wp_Pperm hw.2.1 lp_perm2, wp_Dperm hw.2.2.1 lp_perm2, hw.2.2.2.1, hw.2.2.2.2.1, hw.2.2.2.2.2⟩
theorem lp_fro {T T2 : wd_T} {D : va_G} {cy : Nat → ClassId} {z0 : Nat} {ad ad2 : Nat → Nat} {u u2 : Nat × Nat} {M M2 : mm_M} {out : Nat} {fo : Nat → Int64} {s : State} {H : Heap} {locs : List Loc} (hw : wd_in T D cy z0 ad u M (rx_o cy out fo (wd_ws T2 cy ad2 u2 M2 [])) s H locs) : wd_in T D cy z0 ad u M (wd_ws T2 cy ad2 u2 M2 (lp_o cy out fo)) s H locs :=
  ⟨hw.1, wp_Pperm hw.2.1 lp_perm2.symm, wp_Dperm hw.2.2.1 lp_perm2.symm, hw.2.2.2.1, hw.2.2.2.2.1, hw.2.2.2.2.2⟩
section LAW
variable {p : Program} {l : Launch} {e : Env} {s : State} {m : MethodId} {below : List Frame} {meth : Method} {c : Code} {b L k : Nat} {xs : Nat → Int32} {D : va_G} {cy : Nat → ClassId} {ad ad2 : Nat → Nat} {u u2 : Nat × Nat} {Mc Mr : mm_M} {out : Nat} {fo : Nat → Int64} {H : Heap} {locs : List Loc} {ls : Array Slot}
theorem lp_n5 {a0 : Nat} (hcap : a0 ≤ 131072) (hk : 7 * k + 7 ≤ L) (hL : L ≤ 3584) : 52 + 2 * a0 + k + 1 ≤ 601024 := by omega
theorem lp_n6 {a0 : Nat} (hcap : a0 ≤ 131072) (hk : 7 * k + 7 ≤ L) (hL : L ≤ 3584) : 7545 + 52 * a0 + 6 * k + 6 ≤ 7293034 := by omega
set_option maxRecDepth 100000 in
set_option maxHeartbeats 4000000 in
theorem lc_row (hst : l.stackTraces = false) (hz : rx_z s.heap.size s s.heap) (hF : lp_F p s m meth c b L xs) (hk : 7 * k + 7 ≤ L) (hG : lp_Go p l e s m below meth c b D cy k) (hr : rl_ Mc Mr) (hw : lp_c D cy s ad u Mc ad2 u2 Mr out fo H locs) (hl : lv_has ls 8 (lp_ls b k ad ad2 out)) : lp_W p l e s m below meth c b Mc k H locs (F0 m 2129 ls []) := by
  obtain ⟨z, Mr1, er, hr1, hin, hrow⟩ := m_row hr (xs (7 * k + 1))
  have hcap := lp_cap hr1
  have hL := hF.2.2.2
  have hx := hF.1.1
  have hb := hF.1.2.1
  unfold lp_W
  refine lv_aload_n hx hb dL_law_2129 rfl (lv_at hl 1 rfl) ?_
  refine lp_a hF hw.2.2.2.1 hk hl 1 (by decide) (by decide) dL_law_2130 dL_law_2131 dL_law_2133 dL_law_2134 dL_law_2135 ?_
  refine lv_aload_n hx hb dL_law_2136 rfl (lv_at hl 3 rfl) ?_
  have hw := lp_to hw
  refine vx_calli (vx_runSX (As := [.ref (ad 0), .int (xs (7 * k + 1)), .ref out]) (rest := []) hF.1.S (c_L_row hst hin) (vx_cwSW 3 hF.1.2.2.2.2.1 (uw_gS cw_L_209.1 cw_L_209.2.1 cw_L_209.2.2.1 cw_L_209.2.2.2) rfl rfl rfl ⟨by decide, by decide, rfl⟩ ⟨Nat.le_of_ble_eq_true rfl, Nat.le_of_ble_eq_true rfl⟩) ⟨rx_blind, rx_pre hw hz⟩ rfl rfl hl.1 rfl (lv_room (Nat.le_of_ble_eq_true rfl)) dL_law_2137 ⟨lp_n5 hcap hk hL, lp_n6 hcap hk hL⟩) hw.2.2.2.1 (fun q _ h => h) (fun q h => h) (fun q _ h => h.elim) (fun E ce q9 x t H1 locs1 ht hvm hp => hp.elim) ?_
  intro r f1 t H1 locs1 ht hvm hp hB hsz hkk hS
  have hw1 : wd_in cx_T D cy s.heap.size ad u Mc (rx_o cy out f1 (wd_ws rf_T cy ad2 u2 Mr [])) s H1 locs1 := ⟨hw.1, by rw [← ht]; exact hB.1, hB.2, hS, hw.2.2.2.2.1, hw.2.2.2.2.2⟩
  have hw := lp_cr (lp_fro hw1)
  refine lv_istore (lv' := (5, .int r) :: lp_ls b k ad ad2 out) hx hb dL_law_2140 hl (by decide) rfl (fun ls hl => ?_)
  refine lv_aload_n hx hb dL_law_2142 rfl (lv_at hl 3 rfl) ?_
  refine lp_a hF hw.2.2.2.1 hk (lv_sub hl [1, 2, 3, 4, 5] rfl) 1 (by decide) (by decide) dL_law_2143 dL_law_2144 dL_law_2146 dL_law_2147 dL_law_2148 ?_
  refine clc_Vl hF.1 hw (c_X12_row er) hd_X12_row cw_L_214 (Nat.le_of_ble_eq_true rfl) rfl rfl (rest := []) hl.1 rfl (Nat.le_of_ble_eq_true rfl) ⟨(Nat.le_of_ble_eq_true rfl), (Nat.le_of_ble_eq_true rfl)⟩ ⟨lp_n5 hcap hk hL, lp_n6 hcap hk hL⟩ rfl dL_law_2149 (fun H locs hw => ?_)
  refine lv_lstore (lv' := (6, .long z) :: (5, .int r) :: lp_ls b k ad ad2 out) hx hb dL_law_2152 hl (by decide) rfl (fun ls hl => ?_)
  refine lv_aload_n hx hb dL_law_2154 rfl (lv_at hl 4 rfl) ?_
  refine clc_Vi hF.1 hw (c_X12_thrown rfl) hd_X12_thrown cw_L_215 (Nat.le_of_ble_eq_true rfl) rfl rfl (rest := []) hl.1 rfl (Nat.le_of_ble_eq_true rfl) ⟨(Nat.le_of_ble_eq_true rfl), (Nat.le_of_ble_eq_true rfl)⟩ ⟨lp_n5 hcap hk hL, lp_n6 hcap hk hL⟩ rfl dL_law_2155 (fun H locs hw => ?_)
  have hw := lp_rc hw
  refine lv_iload hx hb dL_law_2158 (lv_at hl 1 rfl) ?_
  have hend : W p l e room_1 s m #[Value.ref b] below meth c H locs (52 + 2 * Mc.2.2 + k + 1) (7545 + 52 * Mc.2.2 + 6 * k + 6) (lw_Z below #[Value.ref b] s) (F0 m 2181 ls []) := by
    refine lv_goto (tgt := 2184) hx hb dL_law_2181 (by decide) ?_
    exact W.widen (by omega) (by omega) (hG ad u Mc ad2 u2 Mr1 out f1 H locs hr1 hw ls (lv_sub hl [2, 3, 4, 5, 6] rfl))
  refine lv_icmp_eq (tgt := 2165) hx hb dL_law_2160 (by decide) (fun _ => ?_) (fun h => ?_)
  · refine lv_iload hx hb dL_law_2165 (lv_at hl 1 rfl) ?_
    refine lv_if_ne (tgt := 2181) hx hb dL_law_2167 (by decide) (fun _ => hend) (fun h0 => ?_)
    refine lv_aload_n hx hb dL_law_2170 rfl (lv_at hl 5 rfl) ?_
    refine lv_iconst (v := 0) hx hb dL_law_2171 (by decide) ?_
    refine va_lald hx hb hw.1 (lp_to hw).2.1 72 1 rx_at rfl (show ix_ok 0 1 by decide) dL_law_2172 ?_
    refine lv_lload hx hb dL_law_2173 (lv_at hl 0 rfl) ?_
    refine lc_eq hx hb dL_law_2175 dL_law_2176 (tgt := 2181) (by decide) (fun _ => hend) (fun h1 => ?_)
    refine absurd ?_ h1
    rcases hp with ⟨hg, _, hf⟩ | ⟨hg, rfl⟩
    · rcases hrow with ⟨_, _, e2⟩ | ⟨hg2, _⟩
      · rw [e2]; exact hf
      · exact absurd hg hg2
    · exact absurd h0 (by decide)
  · refine absurd ?_ h
    rcases hp with ⟨hg, rfl, _⟩ | ⟨hg, rfl⟩
    · rcases hrow with ⟨_, e2, _⟩ | ⟨hg2, _⟩
      · exact e2
      · exact absurd hg hg2
    · rcases hrow with ⟨hg2, _⟩ | ⟨_, e2⟩
      · exact absurd hg2 hg
      · exact e2
end LAW
