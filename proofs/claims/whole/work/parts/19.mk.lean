/-! worlds by membership; copyOf; the two rows that grow -/
theorem wp_P {D : va_G} {cl : List vw_C} {ws : va_W} {H : Heap} : va_P D cl ws H ↔ ∀ q ∈ ws, va_at D cl q H :=
  ⟨fun h q hq => by obtain ⟨k, hk⟩ := List.getElem?_of_mem hq; exact h k q hk, fun h k q hk => h q (List.mem_of_getElem? hk)⟩
theorem wp_D {A : Nat → Prop} {ws : va_W} : va_D A ws ↔ (ws.map Prod.fst).Nodup ∧ ∀ q ∈ ws, A q.1 := by
  constructor
  · intro h
    refine ⟨?_, fun q hq => by obtain ⟨k, hk⟩ := List.getElem?_of_mem hq; exact h.2 k q hk⟩
    rw [List.nodup_iff_pairwise_ne, List.pairwise_iff_getElem]
    intro i j hi hj hij he
    rw [List.length_map] at hi hj
    rw [List.getElem_map, List.getElem_map] at he
    have := h.1 i j _ _ (List.getElem?_eq_getElem hi) (List.getElem?_eq_getElem hj) he
    omega
  · intro h
    refine ⟨fun i j p q hi hj he => ?_, fun k q hk => h.2 q (List.mem_of_getElem? hk)⟩
    have h1 := h.1
    rw [List.nodup_iff_pairwise_ne, List.pairwise_iff_getElem] at h1
    obtain ⟨hi1, hi2⟩ := List.getElem?_eq_some_iff.mp hi
    obtain ⟨hj1, hj2⟩ := List.getElem?_eq_some_iff.mp hj
    rcases Nat.lt_trichotomy i j with q1 | q1 | q1
    · exact absurd (by rw [List.getElem_map, List.getElem_map, hi2, hj2]; exact he) (h1 i j (by rw [List.length_map]; exact hi1) (by rw [List.length_map]; exact hj1) q1)
    · exact q1
    · exact absurd (by rw [List.getElem_map, List.getElem_map, hi2, hj2]; exact he.symm) (h1 j i (by rw [List.length_map]; exact hj1) (by rw [List.length_map]; exact hi1) q1)
theorem wp_Psub {D : va_G} {cl : List vw_C} {ws ws' : va_W} {H : Heap} (h : va_P D cl ws H) (hs : ∀ q ∈ ws', q ∈ ws) : va_P D cl ws' H := wp_P.mpr (fun q hq => wp_P.mp h q (hs q hq))
theorem wp_Dperm {A : Nat → Prop} {ws ws' : va_W} (h : va_D A ws) (hs : ws.Perm ws') : va_D A ws' := by
  obtain ⟨h1, h2⟩ := wp_D.mp h
  exact wp_D.mpr ⟨(hs.map Prod.fst).nodup h1, fun q hq => h2 q (hs.mem_iff.mpr hq)⟩
theorem wp_Dl {A : Nat → Prop} {ws ws' : va_W} (h : va_D A (ws ++ ws')) : va_D A ws := by
  obtain ⟨h1, h2⟩ := wp_D.mp h
  rw [List.map_append] at h1
  exact wp_D.mpr ⟨List.Nodup.sublist (List.sublist_append_left _ _) h1, fun q hq => h2 q (List.mem_append_left _ hq)⟩
theorem wp_Pperm {D : va_G} {cl : List vw_C} {ws ws' : va_W} {H : Heap} (h : va_P D cl ws H) (hs : ws.Perm ws') : va_P D cl ws' H := wp_Psub h (fun q hq => hs.mem_iff.mpr hq)
theorem nI_pos'' {n : Nat} (h : n < 2 ^ 31) : ¬ nI n < 0 := nI_pos h
def cp_U (D : va_G) (cy : Nat → ClassId) (z0 : Nat) (ws : va_W) (U : State) : Prop := va_K D vwCl (wd_ty cy) U ∧ va_P D vwCl ws U.heap ∧ va_D (fun q => z0 ≤ q) ws ∧ z0 ≤ U.heap.size
theorem cp_blind {D : va_G} {cy : Nat → ClassId} {z0 : Nat} {ws : va_W} {as : List Value} : FrameBlind (va_Pc as (cp_U D cy z0 ws)) := fun a U g mk q => by
  obtain ⟨q0, qK, qP, qD, qz⟩ := q
  exact ⟨q0, va_K.moved (u := U) (U := U.calling g mk a) (Vm.Alike.refl U.vm) qK, qP, qD, qz⟩
theorem cp_min {n n' : Nat} (h : n < n') (hb : n' ≤ 100000000) : (if nI n' < Int32.ofNat n then nI n' else Int32.ofNat n) = nI n := by
  rw [if_neg]
  · rfl
  · exact fun q => absurd ((nI_ltI (by omega) (by omega)).mp q) (by omega)
theorem cp_cpy {α : Type} {f : Nat → α} {d : α} {n : Nat} : va_cpy f (fun _ => d) 0 0 n = fun j => if j < n then f j else d := by
  funext k
  simp [va_cpy]
set_option maxRecDepth 100000 in
set_option maxHeartbeats 4000000 in
theorem c_cpI {l : Launch} {D : va_G} {cy : Nat → ClassId} {z0 : Nat} {ws : va_W} {i b n n' : Nat} {f : Nat → Int32} (hi : ws[i]? = some (b, .inl (cy 0, n, .inl f))) (hn : n < n') (hb' : n' ≤ 60000000) : Met l yJ7_copyOf_59c91 (uw_m (Cond.code yJ7_copyOf_59c91 cJ7_copyOf_59c91 3 (some (.array .int)))) { frames := 1, cells := 1, slots := n', locals := 60 } (va_Pc [.ref b, .int (nI n')] (cp_U D cy z0 ws)) (va_Qr (fun (_ : Unit) => True) (fun (_ : Unit) a t => va_P D vwCl (ws ++ [(a, .inl (cy 0, n', .inl (fun j => if j < n then f j else 0)))]) t.heap ∧ va_D (fun q => z0 ≤ q) (ws ++ [(a, .inl (cy 0, n', .inl (fun j => if j < n then f j else 0)))])) (fun q => z0 ≤ q)) 1 n' (fun q => z0 ≤ q) := by
  refine Met.ofW (cc := cJ7_copyOf_59c91) (maxL := 3) (ret := some (.array .int)) (by decide) rfl ?_
  intro p e s m args below meth c s₁ B hml hv
  obtain ⟨rfl, hK, hP, hD, hz⟩ := hv
  have hx := B.exec
  have hb := B.bytes
  have hr := B.returns
  have hts := atoms_spec (ws := uw_m (Cond.code yJ7_copyOf_59c91 cJ7_copyOf_59c91 3 (some (.array .int)))) B.pre
  have hown : s.vm.findClass "java/util/Arrays" = some m.cls := findClass_of_methodNamed B.named
  have hlocks := B.notSynchronized
  have hA : ∀ q : Nat, s.heap.size ≤ q → (fun q => z0 ≤ q) q := fun q h => Nat.le_trans hz h
  have hS : va_S (fun q => z0 ≤ q) s.heap s.heap [] := va_S.rf
  have hil : i < ws.length := (List.getElem?_eq_some_iff.mp hi).1
  refine en_t (Nat.le_of_ble_eq_true rfl) (fun ls hl => ?_)
  have hl : lv_has ls 3 [(0, .ref b), (1, .int (nI n'))] := hl
  refine lv_iload_n hx hb dJ7_copyOf_59c91_0 rfl (lv_at hl 1 rfl) ?_
  refine lv_aload_n hx hb dJ7_copyOf_59c91_1 rfl (lv_at hl 0 rfl) ?_
  refine va_alen hx hb hK hP i 0 hi (ty := .int) rfl rfl dJ7_copyOf_59c91_2 ?_
  refine lv_icmp_ne (tgt := 14) hx hb dJ7_copyOf_59c91_3 (by decide) (fun c1 => ?_) (fun c1 => ?_)
  · refine lv_iload_n hx hb dJ7_copyOf_59c91_14 rfl (lv_at hl 1 rfl) ?_
    refine va_newa (atype := .int) (ty := .int) (N' := n') (a0 := (n', .inl (fun _ => 0))) hx hb (hts _ (uw_of wr_int)) rfl hK hP hD hS hA (fun cA => rfl) (nI_pos (by omega)) (nI_clamp (by omega)) (show n' * 4 ≤ 536870912 by omega) (show 0 + 1 ≤ 1 by omega) (show 0 + n' ≤ n' by omega) dJ7_copyOf_59c91_15 (fun q cA H1 hK1 hP hD hS => ?_)
    have hcA : cA = cy 0 := by
      have e1 : s.vm.findClass ("[" ++ (FieldType.toString .int)) = some cA := (hK1.2 6 _ rfl).2
      have e2 : s.vm.findClass ("[" ++ (FieldType.toString .int)) = some (cy 0) := (hK.2 0 _ rfl).2
      rw [e1] at e2
      exact Option.some.inj e2
    subst hcA
    refine lv_astore_n (lv' := [(2, .ref q), (0, .ref b), (1, .int (nI n'))]) hx hb dJ7_copyOf_59c91_17 rfl hl (by decide) rfl (fun ls hl => ?_)
    refine lv_aload_n hx hb dJ7_copyOf_59c91_18 rfl (lv_at hl 1 rfl) ?_
    refine lv_iconst (v := 0) hx hb dJ7_copyOf_59c91_19 (by decide) ?_
    refine lv_aload_n hx hb dJ7_copyOf_59c91_20 rfl (lv_at hl 0 rfl) ?_
    refine lv_iconst (v := 0) hx hb dJ7_copyOf_59c91_21 (by decide) ?_
    refine lv_aload_n hx hb dJ7_copyOf_59c91_22 rfl (lv_at hl 1 rfl) ?_
    have hi2 : (ws ++ [(q, .inl (cy 0, n', .inl (fun _ => 0)))])[i]? = some (b, .inl (cy 0, n, .inl f)) := by rw [List.getElem?_append_left hil]; exact hi
    have hi3 : (ws ++ [(q, .inl (cy 0, n', .inl (fun _ => 0)))])[ws.length]? = some (q, .inl (cy 0, n', .inl (fun _ => 0))) := by simp
    refine va_alen hx hb hK hP i 0 hi2 (ty := .int) rfl rfl dJ7_copyOf_59c91_23 ?_
    refine lv_iload_n hx hb dJ7_copyOf_59c91_24 rfl (lv_at hl 2 rfl) ?_
    refine va_mmin hx hb (hml.trans hl.1.symm) hown (hts _ (uw_of wm_J7_304)) (hts _ (uw_of wt_J9_min_7cf53)) (hts _ (uw_of wn_J9)) (hts _ (uw_of wo_J9_min_7cf53)) (Nat.le_of_ble_eq_true rfl) (Nat.le_of_ble_eq_true rfl) (show 0 + 1 ≤ 1 by omega) (show 0 + n' ≤ n' by omega) dJ7_copyOf_59c91_25 ?_
    refine lt_i (cp_min hn (by omega)).symm ?_
    refine va_copyi (sp := 0) (dp := 0) (ty := .int) hx hb (hml.trans hl.1.symm) hown (hts _ (uw_of wm_J7_150)) (hts _ (uw_of wv_o809bb3)) (hts _ (uw_of wt_o809bb3)) (hts _ (uw_of wn_J10)) hK hP hD hS i ws.length 0 0 hi2 hi3 rfl rfl rfl (by decide) (by decide) (nI_pos (by omega)) (by rw [nI_clamp (by omega), show (0 : Int32).toNatClampNeg = 0 from rfl]; omega) (by rw [nI_clamp (by omega), show (0 : Int32).toNatClampNeg = 0 from rfl]; omega) (fun i _ => rfl) (Nat.le_of_ble_eq_true rfl) (show 0 + (nativeFrameWords "java/lang/System" "arraycopy" 5 + 11) ≤ 60 by rw [Nat.zero_add]; exact rc_w) dJ7_copyOf_59c91_28 (fun H2 locs2 hP hD hS => ?_)
    rw [List.set_append_right _ _ (Nat.le_refl _), Nat.sub_self, nI_clamp (by omega), show (0 : Int32).toNatClampNeg = 0 from rfl, cp_cpy] at hP hD
    refine lv_aload_n hx hb dJ7_copyOf_59c91_31 rfl (lv_at hl 0 rfl) ?_
    refine W.widen (k := 1) (n := n') (by omega) (by omega) ?_
    exact W.aret hx hb hr (Or.inr ⟨_, rfl⟩) (Or.inr ⟨_, rfl⟩) (fun t ht hW => ⟨⟨(), q, rfl, trivial, by rw [ht]; exact hP, hD⟩, hS.F ht⟩) hS.2.2 dJ7_copyOf_59c91_32
  · exact absurd ((nI_eq (by omega) (by omega)).mp c1) (by omega)
set_option maxRecDepth 100000 in
set_option maxHeartbeats 4000000 in
theorem c_cpL {l : Launch} {D : va_G} {cy : Nat → ClassId} {z0 : Nat} {ws : va_W} {i b n n' : Nat} {f : Nat → Int64} (hi : ws[i]? = some (b, .inl (cy 1, n, .inr (.inl f)))) (hn : n < n') (hb' : n' ≤ 60000000) : Met l yJ7_copyOf_c38d5 (uw_m (Cond.code yJ7_copyOf_c38d5 cJ7_copyOf_c38d5 3 (some (.array .long)))) { frames := 1, cells := 1, slots := n', locals := 60 } (va_Pc [.ref b, .int (nI n')] (cp_U D cy z0 ws)) (va_Qr (fun (_ : Unit) => True) (fun (_ : Unit) a t => va_P D vwCl (ws ++ [(a, .inl (cy 1, n', .inr (.inl (fun j => if j < n then f j else 0))))]) t.heap ∧ va_D (fun q => z0 ≤ q) (ws ++ [(a, .inl (cy 1, n', .inr (.inl (fun j => if j < n then f j else 0))))])) (fun q => z0 ≤ q)) 1 n' (fun q => z0 ≤ q) := by
  refine Met.ofW (cc := cJ7_copyOf_c38d5) (maxL := 3) (ret := some (.array .long)) (by decide) rfl ?_
  intro p e s m args below meth c s₁ B hml hv
  obtain ⟨rfl, hK, hP, hD, hz⟩ := hv
  have hx := B.exec
  have hb := B.bytes
  have hr := B.returns
  have hts := atoms_spec (ws := uw_m (Cond.code yJ7_copyOf_c38d5 cJ7_copyOf_c38d5 3 (some (.array .long)))) B.pre
  have hown : s.vm.findClass "java/util/Arrays" = some m.cls := findClass_of_methodNamed B.named
  have hlocks := B.notSynchronized
  have hA : ∀ q : Nat, s.heap.size ≤ q → (fun q => z0 ≤ q) q := fun q h => Nat.le_trans hz h
  have hS : va_S (fun q => z0 ≤ q) s.heap s.heap [] := va_S.rf
  have hil : i < ws.length := (List.getElem?_eq_some_iff.mp hi).1
  refine en_t (Nat.le_of_ble_eq_true rfl) (fun ls hl => ?_)
  have hl : lv_has ls 3 [(0, .ref b), (1, .int (nI n'))] := hl
  refine lv_iload_n hx hb dJ7_copyOf_c38d5_0 rfl (lv_at hl 1 rfl) ?_
  refine lv_aload_n hx hb dJ7_copyOf_c38d5_1 rfl (lv_at hl 0 rfl) ?_
  refine va_alen hx hb hK hP i 1 hi (ty := .long) rfl rfl dJ7_copyOf_c38d5_2 ?_
  refine lv_icmp_ne (tgt := 14) hx hb dJ7_copyOf_c38d5_3 (by decide) (fun c1 => ?_) (fun c1 => ?_)
  · refine lv_iload_n hx hb dJ7_copyOf_c38d5_14 rfl (lv_at hl 1 rfl) ?_
    refine va_newa (atype := .long) (ty := .long) (N' := n') (a0 := (n', .inr (.inl (fun _ => 0)))) hx hb (hts _ (uw_of wr_long)) rfl hK hP hD hS hA (fun cA => rfl) (nI_pos (by omega)) (nI_clamp (by omega)) (show n' * 8 ≤ 536870912 by omega) (show 0 + 1 ≤ 1 by omega) (show 0 + n' ≤ n' by omega) dJ7_copyOf_c38d5_15 (fun q cA H1 hK1 hP hD hS => ?_)
    have hcA : cA = cy 1 := by
      have e1 : s.vm.findClass ("[" ++ (FieldType.toString .long)) = some cA := (hK1.2 6 _ rfl).2
      have e2 : s.vm.findClass ("[" ++ (FieldType.toString .long)) = some (cy 1) := (hK.2 1 _ rfl).2
      rw [e1] at e2
      exact Option.some.inj e2
    subst hcA
    refine lv_astore_n (lv' := [(2, .ref q), (0, .ref b), (1, .int (nI n'))]) hx hb dJ7_copyOf_c38d5_17 rfl hl (by decide) rfl (fun ls hl => ?_)
    refine lv_aload_n hx hb dJ7_copyOf_c38d5_18 rfl (lv_at hl 1 rfl) ?_
    refine lv_iconst (v := 0) hx hb dJ7_copyOf_c38d5_19 (by decide) ?_
    refine lv_aload_n hx hb dJ7_copyOf_c38d5_20 rfl (lv_at hl 0 rfl) ?_
    refine lv_iconst (v := 0) hx hb dJ7_copyOf_c38d5_21 (by decide) ?_
    refine lv_aload_n hx hb dJ7_copyOf_c38d5_22 rfl (lv_at hl 1 rfl) ?_
    have hi2 : (ws ++ [(q, .inl (cy 1, n', .inr (.inl (fun _ => 0))))])[i]? = some (b, .inl (cy 1, n, .inr (.inl f))) := by rw [List.getElem?_append_left hil]; exact hi
    have hi3 : (ws ++ [(q, .inl (cy 1, n', .inr (.inl (fun _ => 0))))])[ws.length]? = some (q, .inl (cy 1, n', .inr (.inl (fun _ => 0)))) := by simp
    refine va_alen hx hb hK hP i 1 hi2 (ty := .long) rfl rfl dJ7_copyOf_c38d5_23 ?_
    refine lv_iload_n hx hb dJ7_copyOf_c38d5_24 rfl (lv_at hl 2 rfl) ?_
    refine va_mmin hx hb (hml.trans hl.1.symm) hown (hts _ (uw_of wm_J7_304)) (hts _ (uw_of wt_J9_min_7cf53)) (hts _ (uw_of wn_J9)) (hts _ (uw_of wo_J9_min_7cf53)) (Nat.le_of_ble_eq_true rfl) (Nat.le_of_ble_eq_true rfl) (show 0 + 1 ≤ 1 by omega) (show 0 + n' ≤ n' by omega) dJ7_copyOf_c38d5_25 ?_
    refine lt_i (cp_min hn (by omega)).symm ?_
    refine va_copyl (sp := 0) (dp := 0) (ty := .long) hx hb (hml.trans hl.1.symm) hown (hts _ (uw_of wm_J7_150)) (hts _ (uw_of wv_o809bb3)) (hts _ (uw_of wt_o809bb3)) (hts _ (uw_of wn_J10)) hK hP hD hS i ws.length 1 1 hi2 hi3 rfl rfl rfl (by decide) (by decide) (nI_pos (by omega)) (by rw [nI_clamp (by omega), show (0 : Int32).toNatClampNeg = 0 from rfl]; omega) (by rw [nI_clamp (by omega), show (0 : Int32).toNatClampNeg = 0 from rfl]; omega) (fun i _ => rfl) (Nat.le_of_ble_eq_true rfl) (show 0 + (nativeFrameWords "java/lang/System" "arraycopy" 5 + 11) ≤ 60 by rw [Nat.zero_add]; exact rc_w) dJ7_copyOf_c38d5_28 (fun H2 locs2 hP hD hS => ?_)
    rw [List.set_append_right _ _ (Nat.le_refl _), Nat.sub_self, nI_clamp (by omega), show (0 : Int32).toNatClampNeg = 0 from rfl, cp_cpy] at hP hD
    refine lv_aload_n hx hb dJ7_copyOf_c38d5_31 rfl (lv_at hl 0 rfl) ?_
    refine W.widen (k := 1) (n := n') (by omega) (by omega) ?_
    exact W.aret hx hb hr (Or.inr ⟨_, rfl⟩) (Or.inr ⟨_, rfl⟩) (fun t ht hW => ⟨⟨(), q, rfl, trivial, by rw [ht]; exact hP, hD⟩, hS.F ht⟩) hS.2.2 dJ7_copyOf_c38d5_32
  · exact absurd ((nI_eq (by omega) (by omega)).mp c1) (by omega)
theorem gr_fs {ad : Nat → Nat} {u v : Nat × Nat} {rt : Nat → Nat → Nat} {M : mm_M} {k : Nat} {ts : List Nat} (h : ∀ t ∈ ts, t = 0 ∨ t = 1) : wd_fs ad v rt M k ts = wd_fs ad u rt M k ts := by
  unfold wd_fs
  apply List.ext_getElem?
  intro i
  rw [List.getElem?_mapIdx, List.getElem?_mapIdx]
  cases hi : ts[i]? with
  | none => rfl
  | some t =>
    rcases h t (List.mem_of_getElem? hi) with rfl | rfl <;> rfl
theorem gr_kd : ∀ i, i < 70 → i ≠ 5 → ∀ t ∈ (if (cx_kd i).1 = 0 then wd_fl (cx_kd i).2 else []), t = 0 ∨ t = 1 := by decide
theorem gr_e {cy : Nat → ClassId} {ad : Nat → Nat} {u v : Nat × Nat} {M : mm_M} {i : Nat} (hi : i < 70) (h5 : i ≠ 5) : wd_e cx_T cy ad v M i = wd_e cx_T cy ad u M i := by
  have hk := gr_kd i hi h5
  unfold wd_e
  show wd_q cy ad v cx_rt M i (cx_kd i) = wd_q cy ad u cx_rt M i (cx_kd i)
  generalize cx_kd i = q at hk ⊢
  obtain ⟨q1, q2⟩ := q
  match q1 with
  | 0 => show Sum.inr (q2, wd_fs ad v cx_rt M i (wd_fl q2)) = _; rw [gr_fs (u := u) (ts := wd_fl q2) hk]; rfl
  | 1 => rfl
  | 2 => rfl
  | 3 => rfl
  | t + 4 => rfl
theorem gr_r {cy : Nat → ClassId} {ad : Nat → Nat} {u v : Nat × Nat} {M : mm_M} : (wd_r cx_T cy ad u M).set 5 (ad 5, wd_e cx_T cy ad v M 5) = wd_r cx_T cy ad v M := by
  apply List.ext_getElem?
  intro i
  rw [List.getElem?_set]
  have hl : ∀ u, (wd_r cx_T cy ad u M).length = 70 := fun u => wd_rl
  by_cases hi : 5 = i
  · subst hi
    rw [if_pos rfl, if_pos (by rw [hl]; omega)]
    rfl
  · rw [if_neg hi]
    by_cases h2 : i < 70
    · have h3 : i < cx_T.2.2.1 := h2
      simp only [wd_r, List.getElem?_map, List.getElem?_range h3, Option.map_some]
      rw [gr_e h2 (Ne.symm hi)]
    · rw [List.getElem?_eq_none (by rw [hl]; omega), List.getElem?_eq_none (by rw [hl]; omega)]
theorem gr_fin {cy : Nat → ClassId} {ad : Nat → Nat} {u : Nat × Nat} {a1 a2 : Nat} {M : mm_M} {X : va_W} : (wd_r cx_T cy ad (a1, a2) M ++ (((wd_g cx_T cy u M ++ X) ++ [(a1, Sum.inl (cy 0, 6 * (2 * M.2.2), Sum.inl (fun j => if j < 6 * M.2.2 then M.1 70 j else 0)))]) ++ [(a2, Sum.inl (cy 1, 20 * (2 * M.2.2), Sum.inr (Sum.inl (fun j => if j < 20 * M.2.2 then M.2.1 71 j else 0))))])).Perm (wd_ws cx_T cy ad (a1, a2) (mk_gr M) X ++ wd_g cx_T cy u M) := by
  unfold wd_ws
  rw [wd_r_eq (T := cx_T) (M' := mk_gr M) (M := M) (fun i hi => ?_)]
  · have e0 : (wd_r cx_T cy ad (a1, a2) M ++ (wd_g cx_T cy (a1, a2) (mk_gr M) ++ X)) ++ wd_g cx_T cy u M = wd_r cx_T cy ad (a1, a2) M ++ ((wd_g cx_T cy (a1, a2) (mk_gr M) ++ X) ++ wd_g cx_T cy u M) := List.append_assoc _ _ _
    rw [e0]
    refine List.Perm.append_left _ ?_
    have hg : wd_g cx_T cy (a1, a2) (mk_gr M) = [(a1, Sum.inl (cy 0, 6 * (2 * M.2.2), Sum.inl (fun j => if j < 6 * M.2.2 then M.1 70 j else 0))), (a2, Sum.inl (cy 1, 20 * (2 * M.2.2), Sum.inr (Sum.inl (fun j => if j < 20 * M.2.2 then M.2.1 71 j else 0))))] := by
      unfold wd_g
      rw [if_pos (show cx_T.2.2.2 = true from rfl)]
      rfl
    rw [hg]
    generalize ((a1, Sum.inl (cy 0, 6 * (2 * M.2.2), Sum.inl (fun j => if j < 6 * M.2.2 then M.1 70 j else 0))) : Nat × va_E) = x1
    generalize ((a2, Sum.inl (cy 1, 20 * (2 * M.2.2), Sum.inr (Sum.inl (fun j => if j < 20 * M.2.2 then M.2.1 71 j else 0)))) : Nat × va_E) = x2
    have e1 : ((wd_g cx_T cy u M ++ X) ++ [x1]) ++ [x2] = wd_g cx_T cy u M ++ (X ++ [x1, x2]) := by simp
    rw [e1]
    refine List.perm_append_comm.trans ?_
    exact List.Perm.append_right _ List.perm_append_comm
  · have h3 : i < 70 := hi
    refine ⟨?_, ?_⟩
    · funext b; simp [mk_gr, show i ≠ 70 by omega]
    · funext b; simp [mk_gr, show i ≠ 71 by omega]
theorem gr_mul {n : Nat} : (2 : Int32) * Int32.ofNat n = nI (2 * n) := by
  rw [show (2 : Int32) = nI 2 from rfl]
  exact pk_mul 2 n
set_option maxRecDepth 100000 in
set_option maxHeartbeats 8000000 in
theorem c_X9_makeRoom {l : Launch} {D : va_G} {cy : Nat → ClassId} {z0 : Nat} {ad : Nat → Nat} {u : Nat × Nat} {X : va_W} {z M : mm_M} (hf : f_X9_makeRoom M = some z) : ca_v cx_T l yX9_makeRoom (Cond.code yX9_makeRoom cX9_makeRoom 1 none) 3 120 D cy z0 ad u M X [.ref (ad 5)] z := by
  refine bga_v (by decide) (fun p e s m below meth c hC hw => ?_)
  refine en_t (Nat.le_of_ble_eq_true rfl) (fun ls hl => ?_)
  have hl : lv_has ls 1 [(0, .ref (ad 5))] := hl
  have hx := hC.1
  have hb := hC.2.1
  have hC : cx_C p s m [Value.ref (ad 5)].toArray meth c cX9_makeRoom "RhymedThen$Tongue" (Cond.code yX9_makeRoom cX9_makeRoom 1 none) 1 none := hC
  have hown := hC.2.2.2.1
  have hmz := mo_X9_makeRoom hf
  unfold f_X9_makeRoom at hf
  refine lv_aload_n hx hb dX9_makeRoom_0 rfl (lv_at hl 0 rfl) ?_
  refine rg_i hC hw 5 (Nat.le_of_ble_eq_true rfl) rfl fd_X9_4 wf_X9_28 dX9_makeRoom_1 ?_
  refine lv_iconst (v := 1) hx hb dX9_makeRoom_4 (by decide) ?_
  refine lv_iadd hx hb dX9_makeRoom_5 ?_
  refine lv_bipush (v := 6) hx hb dX9_makeRoom_6 (by decide) ?_
  refine lv_imul hx hb dX9_makeRoom_8 ?_
  refine lv_aload_n hx hb dX9_makeRoom_9 rfl (lv_at hl 0 rfl) ?_
  refine rg_8 hC hw 5 (Nat.le_of_ble_eq_true rfl) rfl fd_X9_5 wf_X9_31 dX9_makeRoom_10 ?_
  refine rg_n8 hC hw rfl rfl dX9_makeRoom_13 ?_
  refine lv_icmp_le (tgt := 53) hx hb dX9_makeRoom_14 (by decide) (fun c1 => ?_) (fun c1 => ?_)
  · rw [if_pos c1] at hf
    have hz := Option.some.inj hf
    subst hz
    refine W.widen (k := 2 * (M.2.2 - M.2.2)) (n := 52 * (M.2.2 - M.2.2)) (by omega) (by omega) ?_
    exact rta_v hC hw dX9_makeRoom_53
  · rw [if_neg c1] at hf
    obtain ⟨⟨hc1, hc2⟩, hf⟩ := ck_e hf
    have hz := Option.some.inj hf
    subst hz
    have hzc : (mk_gr M).2.2 = 2 * M.2.2 := rfl
    obtain ⟨hK, hP, hD, hS, hz0, hNw⟩ := hw
    have hw : wd_in cx_T D cy z0 ad u M X s s.heap [] := ⟨hK, hP, hD, hS, hz0, hNw⟩
    refine lv_aload_n hx hb dX9_makeRoom_17 rfl (lv_at hl 0 rfl) ?_
    refine lv_aload_n hx hb dX9_makeRoom_18 rfl (lv_at hl 0 rfl) ?_
    refine rg_8 hC hw 5 (Nat.le_of_ble_eq_true rfl) rfl fd_X9_5 wf_X9_31 dX9_makeRoom_19 ?_
    refine lv_iconst (v := 2) hx hb dX9_makeRoom_22 (by decide) ?_
    refine lv_aload_n hx hb dX9_makeRoom_23 rfl (lv_at hl 0 rfl) ?_
    refine rg_8 hC hw 5 (Nat.le_of_ble_eq_true rfl) rfl fd_X9_5 wf_X9_31 dX9_makeRoom_24 ?_
    refine rg_n8 hC hw rfl rfl dX9_makeRoom_27 ?_
    refine lv_imul hx hb dX9_makeRoom_28 ?_
    refine lt_i (y := nI (6 * (2 * M.2.2))) (by rw [gr_mul]; congr 1; omega) ?_
    refine va_callr (va_runS (As := [.ref u.1, .int (nI (6 * (2 * M.2.2)))]) (rest := [.ref (ad 5)]) hC.S (c_cpI (D := D) (cy := cy) (z0 := z0) (n' := 6 * (2 * M.2.2)) (show (wd_ws cx_T cy ad u M X)[70]? = some (u.1, Sum.inl (cy 0, 6 * M.2.2, Sum.inl (M.1 70))) from wd_at8 rfl) (by omega) (by omega)) (va_cwS 2 hC.2.2.2.2.1 (uw_gS cw_X9_53.1 cw_X9_53.2.1 cw_X9_53.2.2.1 cw_X9_53.2.2.2) rfl rfl rfl hd_J7_copyOf_59c91.2 ⟨Nat.le_of_ble_eq_true rfl, Nat.le_of_ble_eq_true rfl⟩) ⟨cp_blind, fun U hU hW => ⟨rfl, va_K.moved hW.alike hK, by rw [hU]; exact hP, hD, by rw [hU]; exact hz0⟩⟩ rfl rfl hl.1 rfl (lv_room (Nat.le_of_ble_eq_true rfl)) dX9_makeRoom_29 ⟨(show 0 + 1 ≤ 2 * (2 * M.2.2 - M.2.2) by omega), (show 0 + 6 * (2 * M.2.2) ≤ 52 * (2 * M.2.2 - M.2.2) by omega)⟩) hS (fun q _ h => h) (fun q h => h) (fun _ a1 t H1 locs1 ht hvm hp hB hz hk hS => ?_)
    rw [ht] at hB
    obtain ⟨hP, hD⟩ := hB
    have h5 : ∀ (v : Nat × Nat) (Y : va_W), (wd_r cx_T cy ad v M ++ Y)[5]? = some (ad 5, .inr (8, wd_fs ad v cx_rt M 5 (wd_fl 8))) := fun v Y => by
      rw [List.getElem?_append_left (by rw [wd_rl]; exact Nat.le_of_ble_eq_true rfl)]; rfl
    have e5 : ∀ (v w : Nat × Nat) (Y : va_W) (fs : List Value), fs = wd_fs ad w cx_rt M 5 (wd_fl 8) → (wd_r cx_T cy ad v M ++ Y).set 5 (ad 5, .inr (8, fs)) = wd_r cx_T cy ad w M ++ Y := fun v w Y fs hfs => by
      rw [List.set_append, if_pos (by rw [wd_rl]; exact Nat.le_of_ble_eq_true rfl), hfs]
      rw [← gr_r (u := v) (v := w)]; rfl
    rw [show wd_ws cx_T cy ad u M X ++ [(a1, .inl (cy 0, 6 * (2 * M.2.2), .inl (fun j => if j < 6 * M.2.2 then M.1 70 j else 0)))] = wd_r cx_T cy ad u M ++ ((wd_g cx_T cy u M ++ X) ++ [(a1, .inl (cy 0, 6 * (2 * M.2.2), .inl (fun j => if j < 6 * M.2.2 then M.1 70 j else 0)))]) by unfold wd_ws; rw [List.append_assoc]] at hP hD
    generalize hn1 : ((a1, .inl (cy 0, 6 * (2 * M.2.2), .inl (fun j => if j < 6 * M.2.2 then M.1 70 j else 0))) : Nat × va_E) = new1 at hP hD
    refine va_put (ty := .array .int) (own := "RhymedThen$Tongue") (C := RX9) (T := TX9) (N := 7) hx hb hC.2.2.2.2.1 (fun x hx => uw_of (wl_X9 x hx)) tyX9 tyX9_ok nmX9 hown hK hP hD hS 5 (h5 _ _) rfl 5 (Nat.le_of_ble_eq_true rfl) (hC.t wf_X9_31) (fun _ h9 => h9) rfl (by decide +kernel) rfl rfl (Nat.le_of_ble_eq_true rfl) dX9_makeRoom_32 (fun H2 locs2 hP hD hS => ?_)
    rw [e5 u (a1, u.2) _ ((wd_fs ad u cx_rt M 5 (wd_fl 8)).set 5 (.ref a1)) rfl] at hP hD
    refine lv_aload_n hx hb dX9_makeRoom_35 rfl (lv_at hl 0 rfl) ?_
    refine lv_aload_n hx hb dX9_makeRoom_36 rfl (lv_at hl 0 rfl) ?_
    refine va_get (own := "RhymedThen$Tongue") (C := RX9) (T := TX9) (N := 7) (v := .ref u.2) hx hb hC.2.2.2.2.1 (fun x hx => uw_of (wl_X9 x hx)) hown hK hP 5 (h5 _ _) rfl 6 (Nat.le_of_ble_eq_true rfl) (hC.t wf_X9_34) (fun _ h9 => h9) rfl dX9_makeRoom_37 ?_
    refine lv_iconst (v := 2) hx hb dX9_makeRoom_40 (by decide) ?_
    refine lv_aload_n hx hb dX9_makeRoom_41 rfl (lv_at hl 0 rfl) ?_
    refine va_get (own := "RhymedThen$Tongue") (C := RX9) (T := TX9) (N := 7) (v := .ref u.2) hx hb hC.2.2.2.2.1 (fun x hx => uw_of (wl_X9 x hx)) hown hK hP 5 (h5 _ _) rfl 6 (Nat.le_of_ble_eq_true rfl) (hC.t wf_X9_34) (fun _ h9 => h9) rfl dX9_makeRoom_42 ?_
    have h71 : (wd_r cx_T cy ad (a1, u.2) M ++ ((wd_g cx_T cy u M ++ X) ++ [new1]))[71]? = some (u.2, .inl (cy 1, 20 * M.2.2, .inr (.inl (M.2.1 71)))) := by
      rw [List.getElem?_append_right (by rw [wd_rl]; exact Nat.le_of_ble_eq_true rfl), wd_rl]
      show ((wd_g cx_T cy u M ++ X) ++ [new1])[1]? = _
      unfold wd_g
      rw [if_pos (show cx_T.2.2.2 = true from rfl)]
      rfl
    refine va_alen hx hb hK hP 71 1 h71 (ty := .long) rfl rfl dX9_makeRoom_45 ?_
    refine lv_imul hx hb dX9_makeRoom_46 ?_
    refine lt_i (y := nI (20 * (2 * M.2.2))) (by rw [gr_mul]; congr 1; omega) ?_
    refine va_callr (va_runS (As := [.ref u.2, .int (nI (20 * (2 * M.2.2)))]) (rest := [.ref (ad 5)]) hC.S (c_cpL (D := D) (cy := cy) (z0 := z0) (n' := 20 * (2 * M.2.2)) h71 (by omega) (by omega)) (va_cwS 2 hC.2.2.2.2.1 (uw_gS cw_X9_59.1 cw_X9_59.2.1 cw_X9_59.2.2.1 cw_X9_59.2.2.2) rfl rfl rfl hd_J7_copyOf_c38d5.2 ⟨Nat.le_of_ble_eq_true rfl, Nat.le_of_ble_eq_true rfl⟩) ⟨cp_blind, fun U hU hW => ⟨rfl, va_K.moved hW.alike hK, by rw [hU]; exact hP, hD, by rw [hU]; exact Nat.le_trans hz0 hS.1⟩⟩ rfl rfl hl.1 rfl (lv_room (Nat.le_of_ble_eq_true rfl)) dX9_makeRoom_47 ⟨(show 0 + 1 + 1 ≤ 2 * (2 * M.2.2 - M.2.2) by omega), (show 0 + 6 * (2 * M.2.2) + 20 * (2 * M.2.2) ≤ 52 * (2 * M.2.2 - M.2.2) by omega)⟩) hS (fun q _ h => h) (fun q h => h) (fun _ a2 t H1 locs1 ht hvm hp hB hz hk hS => ?_)
    rw [ht] at hB
    obtain ⟨hP, hD⟩ := hB
    rw [List.append_assoc] at hP hD
    refine va_put (ty := .array .long) (own := "RhymedThen$Tongue") (C := RX9) (T := TX9) (N := 7) hx hb hC.2.2.2.2.1 (fun x hx => uw_of (wl_X9 x hx)) tyX9 tyX9_ok nmX9 hown hK hP hD hS 5 (h5 _ _) rfl 6 (Nat.le_of_ble_eq_true rfl) (hC.t wf_X9_34) (fun _ h9 => h9) rfl (by decide +kernel) rfl rfl (Nat.le_of_ble_eq_true rfl) dX9_makeRoom_50 (fun H2 locs2 hP hD hS => ?_)
    rw [e5 (a1, u.2) (a1, a2) _ ((wd_fs ad (a1, u.2) cx_rt M 5 (wd_fl 8)).set 6 (.ref a2)) rfl, ← hn1] at hP hD
    have hw : wd_in cx_T D cy z0 ad (a1, a2) (mk_gr M) X s H2 locs2 := ⟨hK, wp_Psub (wp_Pperm hP gr_fin) (fun q hq => List.mem_append_left _ hq), wp_Dl (wp_Dperm hD gr_fin), hS, hz0, hNw⟩
    refine W.widen (k := 2 * (2 * M.2.2 - M.2.2)) (n := 52 * (2 * M.2.2 - M.2.2)) (by omega) (by omega) ?_
    exact rta_v hC hw dX9_makeRoom_53
