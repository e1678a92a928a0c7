theorem st_wf : wf_ (fun _ _ => 0) := by simp [wf_, hs_, hn_]
theorem st_ic : ic_ (fun _ _ => 0) st_Mc := by
  refine ⟨rfl, fun j h => absurd h (Nat.not_lt_zero j), rfl, rfl, fun c _ => rfl, fun l h => absurd h (Nat.not_lt_zero l), rfl, rfl, fun p _ => rfl, fun h _ => rfl, fun h _ => rfl, fun l h => absurd h (Nat.not_lt_zero l), rfl, rfl, fun l h => absurd h (Nat.not_lt_zero l), fun i hi => ?_, fun s _ hs => ?_⟩
  · refine ⟨?_, fun h => absurd (show (0 : Nat) = 1 from h) (by decide)⟩
    match i, hi with
    | 0, _ => rfl
    | 1, _ => rfl
    | 2, _ => rfl
    | q + 3, h => exact absurd h (by omega)
  · have h6 : st_Mc.1 (22 + s) 6 = 0 := by
      show (if 22 + s = 5 ∧ 6 = 4 then (1 : Int32) else if 22 + s = 14 ∧ 6 = 2 then 1 else if (22 ≤ 22 + s ∧ 22 + s ≤ 38) ∧ 6 = 7 then 5 else 0) = 0
      rw [if_neg (by omega), if_neg (by omega), if_neg (by omega)]
    have h7 : st_Mc.1 (22 + s) 7 = 5 := by
      show (if 22 + s = 5 ∧ 7 = 4 then (1 : Int32) else if 22 + s = 14 ∧ 7 = 2 then 1 else if (22 ≤ 22 + s ∧ 22 + s ≤ 38) ∧ 7 = 7 then 5 else 0) = 5
      rw [if_neg (by omega), if_neg (by omega), if_pos (by omega)]
    exact ⟨h6, h7⟩
theorem st_rl : rl_ st_Mc st_Mr := by
  refine ⟨fun _ _ => 0, [], st_wf, ⟨Nat.zero_le _, fun v h => absurd h List.not_mem_nil⟩, ⟨⟨1, fun _ => [], tc_new rfl ⟨0, Nat.zero_le _, rfl⟩ (fun i _ => rfl) (fun w h => absurd h (Nat.not_lt_zero w))⟩, st_ic, fun s h => absurd h (Nat.not_lt_zero s), rfl, fun j v h => by simp at h⟩, ⟨⟨fun a b h => ?_, fun l hl => ?_, rfl⟩, rfl, fun j v h => by simp at h⟩⟩
  · show (if a = 0 ∧ (b = 26 ∨ b = 27) then (-1 : Int32) else 0) = 0
    rw [if_neg]
    rintro ⟨rfl, h2⟩
    have := pe_0 h
    omega
  · show ib_ 0 l = false
    match l, hl with
    | 0, _ => rfl
    | 1, _ => rfl
    | 2, _ => rfl
    | 3, _ => rfl
    | 4, _ => rfl
    | 5, _ => rfl
    | q + 6, h => exact absurd h (by omega)
def st_g (n h : Nat) (a : Nat → Nat) (k : Nat) : Nat := if k = n then h else a k
theorem st_n1 : (st_p1 ++ [63, 62]).Perm (List.range 72) := by decide +kernel
theorem st_n2 : st_p2.Perm (List.range 43) := by decide +kernel
theorem st_m1 {cy : Nat → ClassId} {h0 : Nat} {a : Nat → Nat} : (st_L1 cy h0 a).map Prod.fst = (List.range 72).map (st_g 71 h0 a) := rfl
theorem st_m2 {cy : Nat → ClassId} {h0 : Nat} {a : Nat → Nat} : (st_L2 cy h0 a).map Prod.fst = (List.range 43).map (st_g 42 h0 a) := rfl
theorem st_d1 {cy : Nat → ClassId} {h0 : Nat} {a : Nat → Nat} : (wd_r cx_T cy (st_a1 h0 a) (st_u1 a) st_Mc ++ wd_g cx_T cy (st_u1 a) st_Mc).map Prod.fst = (st_p1 ++ [63, 62]).map (st_g 71 h0 a) := rfl
theorem st_d2 {cy : Nat → ClassId} {h0 : Nat} {a : Nat → Nat} : (wd_r rf_T cy (st_a2 h0 a) (0, 0) st_Mr).map Prod.fst = st_p2.map (st_g 42 h0 a) := rfl
theorem st_e1 {cy : Nat → ClassId} {h0 : Nat} {a : Nat → Nat} : ((wd_r cx_T cy (st_a1 h0 a) (st_u1 a) st_Mc ++ wd_g cx_T cy (st_u1 a) st_Mc).map Prod.fst).Perm ((st_L1 cy h0 a).map Prod.fst) := by
  rw [st_d1, st_m1]
  exact st_n1.map _
theorem st_e2 {cy : Nat → ClassId} {h0 : Nat} {a : Nat → Nat} : ((wd_r rf_T cy (st_a2 h0 a) (0, 0) st_Mr).map Prod.fst).Perm ((st_L2 cy h0 a).map Prod.fst) := by
  rw [st_d2, st_m2]
  exact st_n2.map _
theorem st_w {D : va_G} {cy : Nat → ClassId} {z0 : Nat} {s : State} {H : Heap} {locs : List Loc} {h1 h2 out : Nat} {a1 a2 : Nat → Nat} (hw : cn_in D cy z0 ((out, .inl (cy 1, 1, .inr (.inl (fun _ => 0)))) :: (st_L2 cy h2 a2 ++ (st_L1 cy h1 a1 ++ []))) s H locs) : wd_in cx_T D cy z0 (st_a1 h1 a1) (st_u1 a1) st_Mc (wd_ws rf_T cy (st_a2 h2 a2) (0, 0) st_Mr (lp_o cy out (fun _ => 0))) s H locs := by
  have hP := wp_P.mp hw.2.1
  have hD := wp_D.mp hw.2.2.1
  have hP1 : ∀ q ∈ st_L1 cy h1 a1, va_at D vwCl q H := fun q hq => hP q (List.mem_cons_of_mem _ (List.mem_append_right _ (List.mem_append_left _ hq)))
  have hP2 : ∀ q ∈ st_L2 cy h2 a2, va_at D vwCl q H := fun q hq => hP q (List.mem_cons_of_mem _ (List.mem_append_left _ hq))
  have hp : ((wd_ws cx_T cy (st_a1 h1 a1) (st_u1 a1) st_Mc (wd_ws rf_T cy (st_a2 h2 a2) (0, 0) st_Mr (lp_o cy out (fun _ => 0)))).map Prod.fst).Perm ((((out, .inl (cy 1, 1, .inr (.inl (fun _ => 0)))) :: (st_L2 cy h2 a2 ++ (st_L1 cy h1 a1 ++ []))) : va_W).map Prod.fst) := by
    have e1 : wd_ws cx_T cy (st_a1 h1 a1) (st_u1 a1) st_Mc (wd_ws rf_T cy (st_a2 h2 a2) (0, 0) st_Mr (lp_o cy out (fun _ => 0))) = ((wd_r cx_T cy (st_a1 h1 a1) (st_u1 a1) st_Mc ++ wd_g cx_T cy (st_u1 a1) st_Mc) ++ wd_r rf_T cy (st_a2 h2 a2) (0, 0) st_Mr) ++ lp_o cy out (fun _ => 0) := by
      unfold wd_ws
      rw [show wd_g rf_T cy (0, 0) st_Mr = [] from rfl, List.nil_append]
      simp only [List.append_assoc]
    rw [e1, List.map_append, List.map_append, List.map_cons, List.map_append, List.append_nil]
    refine (List.perm_append_singleton out _).trans (List.Perm.cons _ ?_)
    exact (st_e1.append st_e2).trans List.perm_append_comm
  refine ⟨hw.1, wp_P.mpr (fun q hq => ?_), wp_D.mpr ⟨hp.nodup_iff.mpr hD.1, fun q hq => ?_⟩, hw.2.2.2.1, hw.2.2.2.2.1, hw.2.2.2.2.2.1 ("RhymedThen$Law", 60, yX11_isBelow) (List.mem_of_getElem? (i := 8) rfl)⟩
  · rcases List.mem_append.mp hq with hq | hq
    · obtain ⟨k, hk, rfl⟩ := List.mem_map.mp hq
      exact st_cA hP1 k (List.mem_range.mp hk)
    rcases List.mem_append.mp hq with hq | hq
    · rcases List.mem_cons.mp (show q ∈ [((st_u1 a1).1, _), ((st_u1 a1).2, _)] from hq) with rfl | hq
      · exact hP1 _ (List.mem_of_getElem? (i := 63) rfl)
      rcases List.mem_cons.mp hq with rfl | hq
      · exact hP1 _ (List.mem_of_getElem? (i := 62) rfl)
      · exact absurd hq List.not_mem_nil
    rcases List.mem_append.mp hq with hq | hq
    · obtain ⟨k, hk, rfl⟩ := List.mem_map.mp hq
      exact st_rA hP2 k (List.mem_range.mp hk)
    rcases List.mem_append.mp hq with hq | hq
    · exact absurd (show q ∈ ([] : va_W) from hq) List.not_mem_nil
    · exact hP q (by rw [List.mem_singleton.mp hq]; exact List.mem_cons_self)
  · obtain ⟨q', h1, h2⟩ := List.mem_map.mp (hp.mem_iff.mp (List.mem_map.mpr ⟨q, hq, rfl⟩))
    rw [← h2]
    exact hD.2 q' h1
