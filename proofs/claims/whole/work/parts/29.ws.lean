theorem tw_1 {w : Cond} (h : w ∈ tables_1_1) : w ∈ lw_tbl := List.mem_append_right _ (show w ∈ tables_1 from List.mem_append_left _ h)
theorem tw_2 {w : Cond} (h : w ∈ tables_1_2) : w ∈ lw_tbl := List.mem_append_right _ (show w ∈ tables_1 from List.mem_append_right _ (List.mem_append_left _ h))
theorem tw_5 {w : Cond} (h : w ∈ tables_1_5) : w ∈ lw_tbl := List.mem_append_right _ (show w ∈ tables_1 from List.mem_append_right _ (List.mem_append_right _ (List.mem_append_right _ (List.mem_append_right _ (List.mem_append_left _ h)))))
section WS
variable {p : Program} {s : State} {m : MethodId} {meth : Method} {c : Code} {b L : Nat} {xs : Nat → Int32}
theorem ws_k (hts : ∀ w ∈ lw_tbl, w.before #[Value.ref b] s = true) : ∀ k : Nat, ∃ (cC : ClassId) (iS : Nat → Nat), ∀ q : vw_C, vwCl[k]? = some q → u_Kn s q.1 q.2.1 q.2.2 cC iS := by
  have hu : ∀ w ∈ uw_U, w.before #[Value.ref b] s = true := fun w hw => hts w (uw_in hw)
  intro k
  match k with
  | 0 => obtain ⟨c0, i0, h⟩ := u_known hu wl_X1 (hu _ wa_X1); exact ⟨c0, i0, fun q hq => by cases hq; exact h⟩
  | 1 => obtain ⟨c0, i0, h⟩ := u_known hu wl_X2 (hu _ wa_X2); exact ⟨c0, i0, fun q hq => by cases hq; exact h⟩
  | 2 => obtain ⟨c0, i0, h⟩ := u_known hu wl_X3 (hu _ wa_X3); exact ⟨c0, i0, fun q hq => by cases hq; exact h⟩
  | 3 => obtain ⟨c0, i0, h⟩ := u_known hu wl_X4 (hu _ wa_X4); exact ⟨c0, i0, fun q hq => by cases hq; exact h⟩
  | 4 => obtain ⟨c0, i0, h⟩ := u_known hu wl_X5 (hu _ wa_X5); exact ⟨c0, i0, fun q hq => by cases hq; exact h⟩
  | 5 => obtain ⟨c0, i0, h⟩ := u_known hu wl_X6 (hu _ wa_X6); exact ⟨c0, i0, fun q hq => by cases hq; exact h⟩
  | 6 => obtain ⟨c0, i0, h⟩ := u_known hu wl_X7 (hu _ wa_X7); exact ⟨c0, i0, fun q hq => by cases hq; exact h⟩
  | 7 => obtain ⟨c0, i0, h⟩ := u_known hu wl_X8 (hu _ wa_X8); exact ⟨c0, i0, fun q hq => by cases hq; exact h⟩
  | 8 => obtain ⟨c0, i0, h⟩ := u_known hu wl_X9 (hu _ wa_X9); exact ⟨c0, i0, fun q hq => by cases hq; exact h⟩
  | 9 => obtain ⟨c0, i0, h⟩ := u_known hu wl_X10 (hu _ wa_X10); exact ⟨c0, i0, fun q hq => by cases hq; exact h⟩
  | 10 => obtain ⟨c0, i0, h⟩ := u_known hu wl_X11 (hu _ wa_X11); exact ⟨c0, i0, fun q hq => by cases hq; exact h⟩
  | 11 => obtain ⟨c0, i0, h⟩ := u_known hu wl_X12 (hu _ wa_X12); exact ⟨c0, i0, fun q hq => by cases hq; exact h⟩
  | k + 12 => exact ⟨(0 : Nat), fun _ => 0, fun q hq => by simp at hq⟩
theorem ws_p {ty : FieldType} (h : (Cond.arrayClass ty).before #[Value.ref b] s = true) : ∃ cA : ClassId, ArrOfT s cA ty ∧ s.vm.findClass ("[" ++ ty.toString) = some cA := by
  obtain ⟨cA, kA, comp, h1, h2, h3⟩ := Cond.arrayClass_spec h
  exact ⟨cA, fun n z => ⟨fun k h => (by cases h), kA, h2, comp, h3⟩, h1⟩
theorem ws_o {C : String} (h : va_AO C s) : ∃ cA : ClassId, ArrOfT s cA (.object C) ∧ va_RA s cA (.object C) := by
  obtain ⟨comp, cA, kA, h1, h2, h3, h4, h5⟩ := Cond.arrayOver_spec h
  exact ⟨cA, fun n z => ⟨fun k h => (by cases h), kA, h3, comp, h4⟩, kA, comp, h3, h4, h1, h5⟩
theorem ws_K (hts : ∀ w ∈ lw_tbl, w.before #[Value.ref b] s = true) : ∃ (D : va_G) (cy : Nat → ClassId), va_K D vwCl (wd_ty cy) s := by
  have hu : ∀ w ∈ uw_U, w.before #[Value.ref b] s = true := fun w hw => hts w (uw_in hw)
  have hk := ws_k hts
  obtain ⟨k0, a0, b0⟩ := ws_p (hu _ wr_int)
  obtain ⟨k1, a1, b1⟩ := ws_p (hu _ wr_long)
  obtain ⟨k2, a2, b2⟩ := ws_p (hu _ wr_boolean)
  obtain ⟨k3, a3, b3⟩ := ws_o (C := "RhymedThen$Kept") (va_AO.of (hts _ (tw_2 (List.mem_of_getElem? (i := 56) rfl))))
  obtain ⟨k4, a4, b4⟩ := ws_o (C := "RhymedThen$Law") (va_AO.of (hts _ (tw_1 (List.mem_of_getElem? (i := 68) rfl))))
  obtain ⟨k5, a5, b5⟩ := ws_o (C := "RhymedThen$Sign") (va_AO.of (hts _ (tw_1 (List.mem_of_getElem? (i := 161) rfl))))
  refine ⟨(fun k => Classical.choose (hk k), fun k => Classical.choose (Classical.choose_spec (hk k))), fun k => ([k0, k1, k2, k3, k4, k5] : List ClassId).getD k k0, fun k q hq => Classical.choose_spec (Classical.choose_spec (hk k)) q hq, fun k q hq => ?_⟩
  match k, hq with
  | 0, hq => cases hq; exact ⟨a0, b0⟩
  | 1, hq => cases hq; exact ⟨a1, b1⟩
  | 2, hq => cases hq; exact ⟨a2, b2⟩
  | 3, hq => cases hq; exact ⟨a3, b3⟩
  | 4, hq => cases hq; exact ⟨a4, b4⟩
  | 5, hq => cases hq; exact ⟨a5, b5⟩
  | k + 6, hq => simp [wd_ty] at hq
theorem ws_N (hts : ∀ w ∈ lw_tbl, w.before #[Value.ref b] s = true) : cn_K s := by
  refine ⟨fun q hq => ?_, va_AO.of (hts _ (tw_1 (List.mem_of_getElem? (i := 68) rfl))), va_AO.of (hts _ (tw_1 (List.mem_of_getElem? (i := 161) rfl))), va_AO.of (hts _ (tw_2 (List.mem_of_getElem? (i := 56) rfl)))⟩
  obtain ⟨k, hk⟩ := List.getElem?_of_mem hq
  match k, hk with
  | 0, hk => cases hk; exact va_Nw.of rfl (hts _ (tw_1 (List.mem_of_getElem? (i := 32) rfl)))
  | 1, hk => cases hk; exact va_Nw.of rfl (hts _ (tw_1 (List.mem_of_getElem? (i := 47) rfl)))
  | 2, hk => cases hk; exact va_Nw.of rfl (hts _ (tw_1 (List.mem_of_getElem? (i := 70) rfl)))
  | 3, hk => cases hk; exact va_Nw.of rfl (hts _ (tw_1 (List.mem_of_getElem? (i := 163) rfl)))
  | 4, hk => cases hk; exact va_Nw.of rfl (hts _ (tw_1 (List.mem_of_getElem? (i := 234) rfl)))
  | 5, hk => cases hk; exact va_Nw.of rfl (hts _ (tw_1 (List.mem_of_getElem? (i := 237) rfl)))
  | 6, hk => cases hk; exact va_Nw.of rfl (hts _ (tw_2 (List.mem_of_getElem? (i := 16) rfl)))
  | 7, hk => cases hk; exact va_Nw.of rfl (hts _ (tw_2 (List.mem_of_getElem? (i := 58) rfl)))
  | 8, hk => cases hk; exact va_Nw.of rfl (hts _ (tw_2 (List.mem_of_getElem? (i := 166) rfl)))
  | k + 9, hk => simp [cn_nws] at hk
theorem ws_z (hts : ∀ w ∈ lw_tbl, w.before #[Value.ref b] s = true) (hgv : (Jvm.Cond.and given_1 narrow_1).before #[Value.ref b] s = true) : rx_z s.heap.size s s.heap := by
  have hs := flat_of_before _ hgv
  have hi : (Cond.initialized Bundle.tN).before #[Value.ref b] s = true := hts _ (tw_1 (List.mem_of_getElem? (i := 18) rfl))
  refine ⟨va_Nw.of rfl (hts _ (tw_5 (List.mem_of_getElem? (i := 101) rfl))), vx_Zqof (hts _ (tw_5 (List.mem_of_getElem? (i := 126) rfl))) hi (hs _ (by decide +kernel)) (fun a ha => Nat.not_le.mpr ha), vx_Zqof (hts _ (tw_5 (List.mem_of_getElem? (i := 128) rfl))) hi (hs _ (by decide +kernel)) (fun a ha => Nat.not_le.mpr ha), va_Nw.of rfl (hts _ (tw_5 (List.mem_of_getElem? (i := 102) rfl))), va_Nw.of rfl (hts _ (tw_5 (List.mem_of_getElem? (i := 104) rfl))), va_Nw.of rfl (hts _ (tw_5 (List.mem_of_getElem? (i := 106) rfl)))⟩
end WS
set_option maxHeartbeats 4000000 in
set_option maxRecDepth 100000 in
/-- THE LAW, from its entry -/
theorem whole_start {p : Program} {e : Env} {s : State} {m : MethodId} {below : List Frame} {meth : Method} {c : Code} (l : Launch) (hst : l.stackTraces = false) {b L : Nat} {xs : Nat → Int32} (hL : L ≤ 3584) (C0 : lw_At p s m meth c b L xs) : W p l e room_1 s m #[Value.ref b] below meth c s.heap [] 0 0 (lw_Z below #[Value.ref b] s) (entryFrame m ([Value.ref b] : List Value).toArray 8) := by
  obtain ⟨hx, hb, hr, hml, hown, hts, hX, hbl, hlocks, hgv⟩ := id C0
  have hC : cx_C p s m #[Value.ref b] meth c code "RhymedThenLaw" lp_w 8 ret := ⟨hx, hb, hml, hown, fun x hx => by
    rcases List.mem_cons.mp hx with rfl | hx
    · exact hts _ (uw_in wn_L)
    · exact hts _ (uw_in hx), hr, hlocks⟩
  have hF : lp_F p s m meth c b L xs := ⟨hC, hX, hbl, hL⟩
  have hz := ws_z hts hgv
  obtain ⟨D, cy, hK⟩ := ws_K hts
  have hw : cn_in D cy s.heap.size [] s s.heap [] := ⟨hK, fun k q h => by simp at h, ⟨fun i j p q h => by simp at h, fun k q h => by simp at h⟩, va_S.rf, Nat.le_refl _, ws_N hts⟩
  refine en_t (as := [Value.ref b]) (Nat.le_of_ble_eq_true rfl) (fun ls hl => ?_)
  have hl : lv_has ls 8 [(0, .ref b)] := hl
  refine cn_new (ci := 10) hC hw wc_L_8 wl_X11 wa_X11 wn_X11 tyX11 tyX11_ok rfl (fs := [.null, .null, .null, .null, .null, .null, .null, .null, .null, .null, .null, .null, .null]) df_X11 (Nat.le_of_ble_eq_true rfl) (Nat.le_of_ble_eq_true rfl) dL_law_0 (fun h1 H hw => ?_)
  refine lv_dup hx hb dL_law_3 rfl ?_
  refine cn_callI hC hw (i_X11_init h1 []) ⟨wo_X11_init, wn_X11, wm_L_15, wi_X11_init⟩ rfl ⟨by decide, by decide, rfl⟩ (rest := [.ref h1]) hl.1 rfl (Nat.le_of_ble_eq_true rfl) ⟨(Nat.le_of_ble_eq_true rfl), (Nat.le_of_ble_eq_true rfl)⟩ ⟨(Nat.le_of_ble_eq_true rfl), (Nat.le_of_ble_eq_true rfl)⟩ rfl dL_law_4 (fun a1 H locs hw => ?_)
  have hw : cn_in D cy s.heap.size (st_L1 cy h1 a1 ++ []) s H locs := hw
  refine lv_astore_n (lv' := [(1, .ref h1), (0, .ref b)]) hx hb dL_law_7 rfl hl (by decide) rfl (fun ls hl => ?_)
  refine cn_new (ci := 11) hC hw wc_L_16 wl_X12 wa_X12 wn_X12 tyX12 tyX12_ok rfl df_X12 (Nat.le_of_ble_eq_true rfl) (Nat.le_of_ble_eq_true rfl) dL_law_8 (fun h2 H hw => ?_)
  refine lv_dup hx hb dL_law_11 rfl ?_
  refine cn_callI hC hw (i_X12_init h2 (st_L1 cy h1 a1 ++ [])) ⟨wo_X12_init, wn_X12, wm_L_18, wi_X12_init⟩ rfl ⟨by decide, by decide, rfl⟩ (rest := [.ref h2]) hl.1 rfl (Nat.le_of_ble_eq_true rfl) ⟨(Nat.le_of_ble_eq_true rfl), (Nat.le_of_ble_eq_true rfl)⟩ ⟨(Nat.le_of_ble_eq_true rfl), (Nat.le_of_ble_eq_true rfl)⟩ rfl dL_law_12 (fun a2 H locs hw => ?_)
  have hw : cn_in D cy s.heap.size (st_L2 cy h2 a2 ++ (st_L1 cy h1 a1 ++ [])) s H locs := hw
  refine lv_astore_n (lv' := [(2, .ref h2), (1, .ref h1), (0, .ref b)]) hx hb dL_law_15 rfl hl (by decide) rfl (fun ls hl => ?_)
  refine lv_iconst (v := 1) hx hb dL_law_16 (by decide) ?_
  refine cn_nl hC hw (N := 1) (by decide) (by decide) (by decide) (Nat.le_of_ble_eq_true rfl) (Nat.le_of_ble_eq_true rfl) dL_law_17 (fun out H hw => ?_)
  refine lv_astore_n (lv' := [(3, .ref out), (2, .ref h2), (1, .ref h1), (0, .ref b)]) hx hb dL_law_19 rfl hl (by decide) rfl (fun ls hl => ?_)
  refine lv_iconst (v := 0) hx hb dL_law_20 (by decide) ?_
  refine lv_istore (lv' := [(4, .int 0), (3, .ref out), (2, .ref h2), (1, .ref h1), (0, .ref b)]) hx hb dL_law_21 hl (by decide) rfl (fun ls hl => ?_)
  exact lp_loop hst hz hF (L + 1) 0 (by omega) (by omega) (st_a1 h1 a1) (st_u1 a1) st_Mc (st_a2 h2 a2) (0, 0) st_Mr out (fun _ => 0) H locs st_rl (st_w hw) ls (lv_sub hl [4, 3, 2, 1, 0] rfl)
