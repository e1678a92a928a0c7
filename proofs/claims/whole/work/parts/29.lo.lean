section LAW
variable {p : Program} {l : Launch} {e : Env} {s : State} {m : MethodId} {below : List Frame} {meth : Method} {c : Code} {b L k : Nat} {xs : Nat → Int32} {D : va_G} {cy : Nat → ClassId} {ad ad2 : Nat → Nat} {u u2 : Nat × Nat} {Mc Mr : mm_M} {out : Nat} {fo : Nat → Int64} {H : Heap} {locs : List Loc} {ls : Array Slot}
theorem lp_gt (hL : L ≤ 3584) (hk : k ≤ 4000) : (Int32.ofNat L - 7 < nI (7 * k)) ↔ L < 7 * k + 7 := by
  have e1 : (Int32.ofNat L - 7).toInt = (L : Int) - 7 := by
    rw [Int32.toInt_sub, show (Int32.ofNat L).toInt = (L : Int) from nI_toInt (show L < 2 ^ 31 by omega), show Int32.toInt 7 = 7 from rfl]
    exact Int.bmod_eq_of_le (by omega) (by omega)
  rw [Int32.lt_iff_toInt_lt, e1, nI_toInt (show 7 * k < 2 ^ 31 by omega)]
  omega
theorem lp_63 (x : Int32) : 0 ≤ (x &&& 63).toInt := by
  have h : (x &&& 63).toBitVec.msb = false := by
    rw [Int32.toBitVec_and, BitVec.msb_and, show (63 : Int32).toBitVec.msb = false from by decide, Bool.and_false]
  show 0 ≤ (x &&& 63).toBitVec.toInt
  rw [BitVec.toInt_eq_msb_cond, h]
  simp
set_option maxRecDepth 100000 in
set_option maxHeartbeats 4000000 in
theorem lp_case (hst : l.stackTraces = false) (hz : rx_z s.heap.size s s.heap) (hF : lp_F p s m meth c b L xs) (hk : 7 * k + 7 ≤ L) (hG : lp_Go p l e s m below meth c b D cy k) (hr : rl_ Mc Mr) (hw : lp_c D cy s ad u Mc ad2 u2 Mr out fo H locs) (hl : lv_has ls 8 (lp_ls b k ad ad2 out)) (v : Int32) (hv : 0 ≤ v.toInt) : lp_W p l e s m below meth c b Mc k H locs (F0 m 40 ls [.int v]) := by
  have hx := hF.1.1
  have hb := hF.1.2.1
  by_cases h45 : (45 : Int) < v.toInt
  · unfold lp_W
    refine lv_tableOut (tgt := 2184) hx hb dL_law_40 (Or.inr h45) (by decide) ?_
    exact lp_end0 hG hr hw hl (Nat.le_refl _)
  obtain ⟨j, hj⟩ : ∃ j : Nat, v.toInt = (j : Int) := ⟨v.toInt.toNat, by omega⟩
  have hj2 : j < 46 := by omega
  match j, hj2, hj with
  | 0, _, hj => exact lv_tableIn (tgt := 240) (off := 200) hx hb dL_law_40 (by rw [hj]; decide) (by rw [hj]; decide) (by rw [hj]; rfl) (by decide) (lc_sign hF hk hG hr hw hl)
  | 1, _, hj => exact lv_tableIn (tgt := 265) (off := 225) hx hb dL_law_40 (by rw [hj]; decide) (by rw [hj]; decide) (by rw [hj]; rfl) (by decide) (lc_end hF hk hG hr hw hl)
  | 2, _, hj => exact lv_tableIn (tgt := 290) (off := 250) hx hb dL_law_40 (by rw [hj]; decide) (by rw [hj]; decide) (by rw [hj]; rfl) (by decide) (lc_group hF hk hG hr hw hl)
  | 3, _, hj => exact lv_tableIn (tgt := 327) (off := 287) hx hb dL_law_40 (by rw [hj]; decide) (by rw [hj]; decide) (by rw [hj]; rfl) (by decide) (lc_word hF hk hG hr hw hl)
  | 4, _, hj => exact lv_tableIn (tgt := 340) (off := 300) hx hb dL_law_40 (by rw [hj]; decide) (by rw [hj]; decide) (by rw [hj]; rfl) (by decide) (lc_law hF hk hG hr hw hl)
  | 5, _, hj => exact lv_tableIn (tgt := 389) (off := 349) hx hb dL_law_40 (by rw [hj]; decide) (by rw [hj]; decide) (by rw [hj]; rfl) (by decide) (lc_lag hF hk hG hr hw hl)
  | 6, _, hj => exact lv_tableIn (tgt := 426) (off := 386) hx hb dL_law_40 (by rw [hj]; decide) (by rw [hj]; decide) (by rw [hj]; rfl) (by decide) (lc_lags hF hk hG hr hw hl)
  | 7, _, hj => exact lv_tableIn (tgt := 487) (off := 447) hx hb dL_law_40 (by rw [hj]; decide) (by rw [hj]; decide) (by rw [hj]; rfl) (by decide) (lc_said hF hk hG hr hw hl)
  | 8, _, hj => exact lv_tableIn (tgt := 548) (off := 508) hx hb dL_law_40 (by rw [hj]; decide) (by rw [hj]; decide) (by rw [hj]; rfl) (by decide) (lc_changes hF hk hG hr hw hl)
  | 9, _, hj => exact lv_tableIn (tgt := 597) (off := 557) hx hb dL_law_40 (by rw [hj]; decide) (by rw [hj]; decide) (by rw [hj]; rfl) (by decide) (lc_alike hF hk hG hr hw hl)
  | 10, _, hj => exact lv_tableIn (tgt := 670) (off := 630) hx hb dL_law_40 (by rw [hj]; decide) (by rw [hj]; decide) (by rw [hj]; rfl) (by decide) (lc_one hF hk hG hr hw hl)
  | 11, _, hj => exact lv_tableIn (tgt := 731) (off := 691) hx hb dL_law_40 (by rw [hj]; decide) (by rw [hj]; decide) (by rw [hj]; rfl) (by decide) (lc_rhymes hF hk hG hr hw hl)
  | 12, _, hj => exact lv_tableIn (tgt := 792) (off := 752) hx hb dL_law_40 (by rw [hj]; decide) (by rw [hj]; decide) (by rw [hj]; rfl) (by decide) (lc_chance hF hk hG hr hw hl)
  | 13, _, hj => exact lv_tableIn (tgt := 841) (off := 801) hx hb dL_law_40 (by rw [hj]; decide) (by rw [hj]; decide) (by rw [hj]; rfl) (by decide) (lc_works hF hk hG hr hw hl)
  | 14, _, hj => exact lv_tableIn (tgt := 902) (off := 862) hx hb dL_law_40 (by rw [hj]; decide) (by rw [hj]; decide) (by rw [hj]; rfl) (by decide) (lc_mark hF hk hG hr hw hl)
  | 15, _, hj => exact lv_tableIn (tgt := 989) (off := 949) hx hb dL_law_40 (by rw [hj]; decide) (by rw [hj]; decide) (by rw [hj]; rfl) (by decide) (lc_by hF hk hG hr hw hl)
  | 16, _, hj => exact lv_tableIn (tgt := 1038) (off := 998) hx hb dL_law_40 (by rw [hj]; decide) (by rw [hj]; decide) (by rw [hj]; rfl) (by decide) (lc_turn hF hk hG hr hw hl)
  | 17, _, hj => exact lv_tableIn (tgt := 1091) (off := 1051) hx hb dL_law_40 (by rw [hj]; decide) (by rw [hj]; decide) (by rw [hj]; rfl) (by decide) (lc_holds hF hk hG hr hw hl)
  | 18, _, hj => exact lv_tableIn (tgt := 1128) (off := 1088) hx hb dL_law_40 (by rw [hj]; decide) (by rw [hj]; decide) (by rw [hj]; rfl) (by decide) (lc_fits hF hk hG hr hw hl)
  | 19, _, hj => exact lv_tableIn (tgt := 1141) (off := 1101) hx hb dL_law_40 (by rw [hj]; decide) (by rw [hj]; decide) (by rw [hj]; rfl) (by decide) (lc_span hF hk hG hr hw hl)
  | 20, _, hj => exact lv_tableIn (tgt := 1178) (off := 1138) hx hb dL_law_40 (by rw [hj]; decide) (by rw [hj]; decide) (by rw [hj]; rfl) (by decide) (lc_order hF hk hG hr hw hl)
  | 21, _, hj => exact lv_tableIn (tgt := 1215) (off := 1175) hx hb dL_law_40 (by rw [hj]; decide) (by rw [hj]; decide) (by rw [hj]; rfl) (by decide) (lc_wrong hF hk hG hr hw hl)
  | 22, _, hj => exact lv_tableIn (tgt := 1228) (off := 1188) hx hb dL_law_40 (by rw [hj]; decide) (by rw [hj]; decide) (by rw [hj]; rfl) (by decide) (lc_blunder hF hk hG hr hw hl)
  | 23, _, hj => exact lv_tableIn (tgt := 1241) (off := 1201) hx hb dL_law_40 (by rw [hj]; decide) (by rw [hj]; decide) (by rw [hj]; rfl) (by decide) (lc_sure hF hk hG hr hw hl)
  | 24, _, hj => exact lv_tableIn (tgt := 1290) (off := 1250) hx hb dL_law_40 (by rw [hj]; decide) (by rw [hj]; decide) (by rw [hj]; rfl) (by decide) (lc_shows hF hk hG hr hw hl)
  | 25, _, hj => exact lv_tableIn (tgt := 1327) (off := 1287) hx hb dL_law_40 (by rw [hj]; decide) (by rw [hj]; decide) (by rw [hj]; rfl) (by decide) (lc_least hF hk hG hr hw hl)
  | 26, _, hj => exact lv_tableIn (tgt := 1340) (off := 1300) hx hb dL_law_40 (by rw [hj]; decide) (by rw [hj]; decide) (by rw [hj]; rfl) (by decide) (lc_odds hF hk hG hr hw hl)
  | 27, _, hj => exact lv_tableIn (tgt := 1365) (off := 1325) hx hb dL_law_40 (by rw [hj]; decide) (by rw [hj]; decide) (by rw [hj]; rfl) (by decide) (lc_then hF hk hG hr hw hl)
  | 28, _, hj => exact lv_tableIn (tgt := 1414) (off := 1374) hx hb dL_law_40 (by rw [hj]; decide) (by rw [hj]; decide) (by rw [hj]; rfl) (by decide) (lc_right hF hk hG hr hw hl)
  | 29, _, hj => exact lv_tableIn (tgt := 1463) (off := 1423) hx hb dL_law_40 (by rw [hj]; decide) (by rw [hj]; decide) (by rw [hj]; rfl) (by decide) (lc_likely hF hk hG hr hw hl)
  | 30, _, hj => exact lv_tableIn (tgt := 1476) (off := 1436) hx hb dL_law_40 (by rw [hj]; decide) (by rw [hj]; decide) (by rw [hj]; rfl) (by decide) (lc_next hF hk hG hr hw hl)
  | 31, _, hj => exact lv_tableIn (tgt := 1489) (off := 1449) hx hb dL_law_40 (by rw [hj]; decide) (by rw [hj]; decide) (by rw [hj]; rfl) (by decide) (lc_eye hF hk hG hr hw hl)
  | 32, _, hj => exact lv_tableIn (tgt := 1526) (off := 1486) hx hb dL_law_40 (by rw [hj]; decide) (by rw [hj]; decide) (by rw [hj]; rfl) (by decide) (lc_lean hF hk hG hr hw hl)
  | 33, _, hj => exact lv_tableIn (tgt := 1563) (off := 1523) hx hb dL_law_40 (by rw [hj]; decide) (by rw [hj]; decide) (by rw [hj]; rfl) (by decide) (lc_ahead hF hk hG hr hw hl)
  | 34, _, hj => exact lv_tableIn (tgt := 1600) (off := 1560) hx hb dL_law_40 (by rw [hj]; decide) (by rw [hj]; decide) (by rw [hj]; rfl) (by decide) (lc_stage hF hk hG hr hw hl)
  | 35, _, hj => exact lv_tableIn (tgt := 1673) (off := 1633) hx hb dL_law_40 (by rw [hj]; decide) (by rw [hj]; decide) (by rw [hj]; rfl) (by decide) (lc_might hF hk hG hr hw hl)
  | 36, _, hj => exact lv_tableIn (tgt := 1760) (off := 1720) hx hb dL_law_40 (by rw [hj]; decide) (by rw [hj]; decide) (by rw [hj]; rfl) (by decide) (lc_look hF hk hG hr hw hl)
  | 37, _, hj => exact lv_tableIn (tgt := 1797) (off := 1757) hx hb dL_law_40 (by rw [hj]; decide) (by rw [hj]; decide) (by rw [hj]; rfl) (by decide) (lc_settled hF hk hG hr hw hl)
  | 38, _, hj => exact lv_tableIn (tgt := 1834) (off := 1794) hx hb dL_law_40 (by rw [hj]; decide) (by rw [hj]; decide) (by rw [hj]; rfl) (by decide) (lc_fell hF hk hG hr hw hl)
  | 39, _, hj => exact lv_tableIn (tgt := 1883) (off := 1843) hx hb dL_law_40 (by rw [hj]; decide) (by rw [hj]; decide) (by rw [hj]; rfl) (by decide) (lc_town hF hk hG hr hw hl)
  | 40, _, hj => exact lv_tableIn (tgt := 1944) (off := 1904) hx hb dL_law_40 (by rw [hj]; decide) (by rw [hj]; decide) (by rw [hj]; rfl) (by decide) (lc_swap hF hk hG hr hw hl)
  | 41, _, hj => exact lv_tableIn (tgt := 2017) (off := 1977) hx hb dL_law_40 (by rw [hj]; decide) (by rw [hj]; decide) (by rw [hj]; rfl) (by decide) (lc_keep hF hk hG hr hw hl)
  | 42, _, hj => exact lv_tableIn (tgt := 2042) (off := 2002) hx hb dL_law_40 (by rw [hj]; decide) (by rw [hj]; decide) (by rw [hj]; rfl) (by decide) (lc_again hF hk hG hr hw hl)
  | 43, _, hj => exact lv_tableIn (tgt := 2067) (off := 2027) hx hb dL_law_40 (by rw [hj]; decide) (by rw [hj]; decide) (by rw [hj]; rfl) (by decide) (lc_count hF hk hG hr hw hl)
  | 44, _, hj => exact lv_tableIn (tgt := 2092) (off := 2052) hx hb dL_law_40 (by rw [hj]; decide) (by rw [hj]; decide) (by rw [hj]; rfl) (by decide) (lc_year hF hk hG hr hw hl)
  | 45, _, hj => exact lv_tableIn (tgt := 2129) (off := 2089) hx hb dL_law_40 (by rw [hj]; decide) (by rw [hj]; decide) (by rw [hj]; rfl) (by decide) (lc_row hst hz hF hk hG hr hw hl)
  | q + 46, h, _ => exact absurd h (by omega)
set_option maxRecDepth 100000 in
set_option maxHeartbeats 4000000 in
theorem lp_loop (hst : l.stackTraces = false) (hz : rx_z s.heap.size s s.heap) (hF : lp_F p s m meth c b L xs) : ∀ (n k : Nat), 7 * k ≤ L + 7 → L < 7 * k + 7 * n + 7 → ∀ (ad : Nat → Nat) (u : Nat × Nat) (Mc : mm_M) (ad2 : Nat → Nat) (u2 : Nat × Nat) (Mr : mm_M) (out : Nat) (fo : Nat → Int64) (H : Heap) (locs : List Loc), rl_ Mc Mr → lp_c D cy s ad u Mc ad2 u2 Mr out fo H locs → ∀ ls : Array Slot, lv_has ls 8 (lp_ls b k ad ad2 out) → lp_W p l e s m below meth c b Mc k H locs (F0 m 23 ls []) := by
  have hx := hF.1.1
  have hb := hF.1.2.1
  have hL := hF.2.2.2
  intro n
  induction n with
  | zero =>
    intro k h1 h2 ad u Mc ad2 u2 Mr out fo H locs hr hw ls hl
    have hcap := lp_cap hr
    unfold lp_W
    refine lv_iload hx hb dL_law_23 (lv_at hl 4 rfl) ?_
    refine lv_aload_n hx hb dL_law_25 rfl (lv_at hl 0 rfl) ?_
    refine va_slen hx hb hF.2.1 hF.2.2.1 (Nat.not_le.mpr hF.2.2.1) hw.2.2.2.1 dL_law_26 ?_
    refine lv_bipush (v := 7) hx hb dL_law_27 (by decide) ?_
    refine lv_isub hx hb dL_law_29 ?_
    refine lv_icmp_gt (tgt := 2190) hx hb dL_law_30 (by decide) (fun c1 => ?_) (fun c1 => ?_)
    · refine lv_iconst (v := 1) hx hb dL_law_2190 (by decide) ?_
      refine va_forget (fun q hq => hw.2.2.2.1.2.2 q hq) ?_
      refine W.widen (k := 601024) (n := 7293034) (by omega) (by omega) ?_
      exact lw_ret hx hb hF.1.2.2.2.2.2.1 hF.1.2.2.2.2.2.2 dL_law_2191
    · exact absurd ((lp_gt hL (by omega)).mpr (by omega)) c1
  | succ n ih =>
    intro k h1 h2 ad u Mc ad2 u2 Mr out fo H locs hr hw ls hl
    have hcap := lp_cap hr
    unfold lp_W
    refine lv_iload hx hb dL_law_23 (lv_at hl 4 rfl) ?_
    refine lv_aload_n hx hb dL_law_25 rfl (lv_at hl 0 rfl) ?_
    refine va_slen hx hb hF.2.1 hF.2.2.1 (Nat.not_le.mpr hF.2.2.1) hw.2.2.2.1 dL_law_26 ?_
    refine lv_bipush (v := 7) hx hb dL_law_27 (by decide) ?_
    refine lv_isub hx hb dL_law_29 ?_
    refine lv_icmp_gt (tgt := 2190) hx hb dL_law_30 (by decide) (fun c1 => ?_) (fun c1 => ?_)
    · refine lv_iconst (v := 1) hx hb dL_law_2190 (by decide) ?_
      refine va_forget (fun q hq => hw.2.2.2.1.2.2 q hq) ?_
      refine W.widen (k := 601024) (n := 7293034) (by omega) (by omega) ?_
      exact lw_ret hx hb hF.1.2.2.2.2.2.1 hF.1.2.2.2.2.2.2 dL_law_2191
    · have hk : 7 * k + 7 ≤ L := by
        rcases Nat.lt_or_ge L (7 * k + 7) with q | q
        · exact absurd ((lp_gt hL (by omega)).mpr q) c1
        · exact q
      refine lv_aload_n hx hb dL_law_33 rfl (lv_at hl 0 rfl) ?_
      refine lv_iload hx hb dL_law_34 (lv_at hl 4 rfl) ?_
      refine va_sld hx hb hF.2.1 hF.2.2.1 (Nat.not_le.mpr hF.2.2.1) hw.2.2.2.1 (vp_in_nI (by omega) (by omega)) dL_law_36 ?_
      refine lv_bipush (v := 63) hx hb dL_law_37 (by decide) ?_
      refine lv_iand hx hb dL_law_39 ?_
      refine lp_case hst hz hF hk ?_ hr hw hl _ (lp_63 _)
      intro ad u Mc ad2 u2 Mr out fo H locs hr hw ls hl
      refine lv_iinc (v := nI (7 * (k + 1))) (lv' := [(4, .int (nI (7 * (k + 1)))), (0, .ref b), (1, .ref (ad 0)), (2, .ref (ad2 0)), (3, .ref out)]) hx hb dL_law_2184 hl (k := 4) rfl (nI_add (7 * k) 7) (by decide) rfl (fun ls hl => ?_)
      refine lv_goto (tgt := 23) hx hb dL_law_2187 (by decide) ?_
      exact W.widen (by omega) (by omega) (ih (k + 1) (by omega) (by omega) ad u Mc ad2 u2 Mr out fo H locs hr hw ls (lv_sub hl [1, 2, 3, 4, 0] rfl))
end LAW
