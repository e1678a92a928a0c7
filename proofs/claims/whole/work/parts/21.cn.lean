theorem wo_obj : Cond.code Lib.objectInit ⟨#[0xb1]⟩ 1 none ∈ uw_U := uw_1 (List.mem_of_getElem? (i := 29) rfl) rfl
def cn_nws : List (String × Nat × MethodName) := [("RhymedThen", 9, yX8_init), ("RhymedThen", 18, yX4_init), ("RhymedThen$Tongue", 38, yX2_init), ("RhymedThen$Signs", 39, yX5_init), ("RhymedThen", 50, yX5_init), ("RhymedThen", 57, yX10_init), ("RhymedThen", 64, yX7_init), ("RhymedThen", 89, yX1_init), ("RhymedThen$Law", 60, yX11_isBelow)]
def cn_K (s : State) : Prop := (∀ q ∈ cn_nws, va_Nw (.methodLinkNest q.1 q.2.1 q.2.2 "RhymedThen") s) ∧ va_AO "RhymedThen$Law" s ∧ va_AO "RhymedThen$Sign" s ∧ va_AO "RhymedThen$Kept" s
theorem cn_K.warm {s U : State} (hW : s.WarmedH U.vm) (h : cn_K s) : cn_K U := ⟨fun q hq => va_Nw.warmM hW (h.1 q hq), va_AO.moved hW.alike h.2.1, va_AO.moved hW.alike h.2.2.1, va_AO.moved hW.alike h.2.2.2⟩
theorem cn_K.same {s U : State} (hv : s.vm = U.vm) (h : cn_K s) : cn_K U := ⟨fun q hq => va_Nw.same rfl hv (h.1 q hq), va_AO.moved (by rw [hv]; exact Vm.Alike.refl _) h.2.1, va_AO.moved (by rw [hv]; exact Vm.Alike.refl _) h.2.2.1, va_AO.moved (by rw [hv]; exact Vm.Alike.refl _) h.2.2.2⟩
def cn_in (D : va_G) (cy : Nat → ClassId) (z0 : Nat) (ws : va_W) (s : State) (H : Heap) (locs : List Loc) : Prop := va_K D vwCl (wd_ty cy) s ∧ va_P D vwCl ws H ∧ va_D (fun q => z0 ≤ q) ws ∧ va_S (fun q => z0 ≤ q) s.heap H locs ∧ z0 ≤ s.heap.size ∧ cn_K s
def cn_U (D : va_G) (cy : Nat → ClassId) (z0 : Nat) (ws : va_W) (U : State) : Prop := va_K D vwCl (wd_ty cy) U ∧ va_P D vwCl ws U.heap ∧ va_D (fun q => z0 ≤ q) ws ∧ z0 ≤ U.heap.size ∧ cn_K U
def cn_B (D : va_G) (z0 : Nat) (ws : va_W) (t : State) : Prop := va_P D vwCl ws t.heap ∧ va_D (fun q => z0 ≤ q) ws
def cn_c (l : Launch) (y : MethodName) (wy : Cond) (fr mc ms lo : Nat) (D : va_G) (cy : Nat → ClassId) (z0 : Nat) (as : List Value) (ws : va_W) (post : (Nat → Nat) → va_W) : Prop := Met l y (uw_m wy) { frames := fr, cells := mc, slots := ms, locals := lo } (va_Pc as (cn_U D cy z0 ws)) (va_Qv (fun (_ : Nat → Nat) => True) (fun a t => cn_B D z0 (post a) t) (fun q => z0 ≤ q)) mc ms (fun q => z0 ≤ q)
theorem cn_blind {D : va_G} {cy : Nat → ClassId} {z0 : Nat} {ws : va_W} {as : List Value} : FrameBlind (va_Pc as (cn_U D cy z0 ws)) := fun a U g mk q => by
  obtain ⟨q0, qK, qP, qD, qz, qn⟩ := q
  exact ⟨q0, va_K.moved (u := U) (U := U.calling g mk a) (Vm.Alike.refl U.vm) qK, qP, qD, qz, cn_K.same (s := U) (U := U.calling g mk a) rfl qn⟩
section CNR
variable {p : Program} {l : Launch} {e : Env} {R : Room} {s : State} {m : MethodId} {args : Array Value} {below : List Frame} {meth : Method} {c : Code} {H : Heap} {locs : List Loc} {cells slots : Nat} {Q : State → Prop}
variable {cc : ByteArray} {own : String} {w : Cond} {nL : Nat} {ret : Option FieldType} {pc : Nat} {ls : Array Slot} {rest st As : List Value}
variable {D : va_G} {cy : Nat → ClassId} {z0 : Nat} {ws : va_W}
theorem cn_A (hw : cn_in D cy z0 ws s H locs) : ∀ q : Nat, s.heap.size ≤ q → (fun q => z0 ≤ q) q := fun q h => Nat.le_trans hw.2.2.2.2.1 h
theorem cn_front {x : Nat × va_E} {K' : List (ClassId × FieldType)} {H1 : Heap} (hw : cn_in D cy z0 ws s H locs) (hP : va_P D vwCl (ws ++ [x]) H1) (hD : va_D (fun q => z0 ≤ q) (ws ++ [x])) (hS : va_S (fun q => z0 ≤ q) s.heap H1 locs) : cn_in D cy z0 (x :: ws) s H1 locs :=
  ⟨hw.1, wp_Pperm hP (List.perm_append_comm (l₁ := ws) (l₂ := [x])), wp_Dperm hD (List.perm_append_comm (l₁ := ws) (l₂ := [x])), hS, hw.2.2.2.2.1, hw.2.2.2.2.2⟩
theorem cn_new (hC : cx_C p s m args meth c cc own w nL ret) (hw : cn_in D cy z0 ws s H locs) {C : String} {F : u_T} {N ci index : Nat} (hcl : Cond.classLink own index C ∈ uw_U) (hin : ∀ w ∈ u_ws C F N, w ∈ uw_U) (hinst : Cond.instantiable C N ∈ uw_U) (hini : Cond.initialized C ∈ uw_U) (ty : Nat → FieldType) (hty : ∀ k, k < N → parseFieldDescriptor (F k).2.2.1 = some (ty k)) (hc : vwCl[ci]? = some (C, F, N)) {fs : List Value} (hfs : ∀ j, j < N → defaultValue (ty j) = vp_V fs j) (hcells : cells + 1 ≤ R.cells) (hslots : slots + N ≤ R.slots) (hdg : decode cc pc = .ok (.new index, 3))
    (kk : ∀ (q : Nat) (H : Heap), cn_in D cy z0 ((q, .inr (ci, fs)) :: ws) s H locs → W p l e R s m args below meth c H locs (cells + 1) (slots + N) Q (F0 m (pc + 3) ls (.ref q :: rest))) : W p l e R s m args below meth c H locs cells slots Q (F0 m pc ls rest) :=
  va_new hC.1 hC.2.1 hC.2.2.2.2.1 (fun x hx => uw_of (hin x hx)) ty hty hC.2.2.2.1 (hC.t hcl) (hC.t hinst) (hC.t hini) hw.1 hw.2.1 hw.2.2.1 hw.2.2.2.1 (cn_A hw) hc hfs hcells hslots hdg (fun q H1 hP hD hS => kk q H1 (cn_front (K' := []) hw hP hD hS))

theorem cn_ni (hC : cx_C p s m args meth c cc own w nL ret) (hw : cn_in D cy z0 ws s H locs) {n : Int32} {N : Nat} (hn : ¬ n < 0) (hN : n.toNatClampNeg = N) (hbytes : N * 4 ≤ 536870912) (hcells : cells + 1 ≤ R.cells) (hslots : slots + N ≤ R.slots) (hdg : decode cc pc = .ok (.newarray .int, 2))
    (kk : ∀ (q : Nat) (H : Heap), cn_in D cy z0 ((q, .inl (cy 0, N, .inl (fun _ => 0))) :: ws) s H locs → W p l e R s m args below meth c H locs (cells + 1) (slots + N) Q (F0 m (pc + 2) ls (.ref q :: rest))) : W p l e R s m args below meth c H locs cells slots Q (F0 m pc ls (.int n :: rest)) := by
  refine va_newa (atype := .int) (ty := .int) (N' := N) (a0 := (N, .inl (fun _ => 0))) hC.1 hC.2.1 (hC.t wr_int) rfl hw.1 hw.2.1 hw.2.2.1 hw.2.2.2.1 (cn_A hw) (fun cA => rfl) hn hN hbytes hcells hslots hdg (fun q cA H1 hK1 hP hD hS => ?_)
  have hcA : cA = cy 0 := by
    have e1 : s.vm.findClass ("[" ++ (FieldType.toString .int)) = some cA := (hK1.2 6 _ rfl).2
    have e2 : s.vm.findClass ("[" ++ (FieldType.toString .int)) = some (cy 0) := (hw.1.2 0 _ rfl).2
    rw [e1] at e2
    exact Option.some.inj e2
  subst hcA
  exact kk q H1 (cn_front (K' := []) hw hP hD hS)
theorem cn_nl (hC : cx_C p s m args meth c cc own w nL ret) (hw : cn_in D cy z0 ws s H locs) {n : Int32} {N : Nat} (hn : ¬ n < 0) (hN : n.toNatClampNeg = N) (hbytes : N * 8 ≤ 536870912) (hcells : cells + 1 ≤ R.cells) (hslots : slots + N ≤ R.slots) (hdg : decode cc pc = .ok (.newarray .long, 2))
    (kk : ∀ (q : Nat) (H : Heap), cn_in D cy z0 ((q, .inl (cy 1, N, .inr (.inl (fun _ => 0)))) :: ws) s H locs → W p l e R s m args below meth c H locs (cells + 1) (slots + N) Q (F0 m (pc + 2) ls (.ref q :: rest))) : W p l e R s m args below meth c H locs cells slots Q (F0 m pc ls (.int n :: rest)) := by
  refine va_newa (atype := .long) (ty := .long) (N' := N) (a0 := (N, .inr (.inl (fun _ => 0)))) hC.1 hC.2.1 (hC.t wr_long) rfl hw.1 hw.2.1 hw.2.2.1 hw.2.2.2.1 (cn_A hw) (fun cA => rfl) hn hN hbytes hcells hslots hdg (fun q cA H1 hK1 hP hD hS => ?_)
  have hcA : cA = cy 1 := by
    have e1 : s.vm.findClass ("[" ++ (FieldType.toString .long)) = some cA := (hK1.2 6 _ rfl).2
    have e2 : s.vm.findClass ("[" ++ (FieldType.toString .long)) = some (cy 1) := (hw.1.2 1 _ rfl).2
    rw [e1] at e2
    exact Option.some.inj e2
  subst hcA
  exact kk q H1 (cn_front (K' := []) hw hP hD hS)
theorem cn_nz (hC : cx_C p s m args meth c cc own w nL ret) (hw : cn_in D cy z0 ws s H locs) {n : Int32} {N : Nat} (hn : ¬ n < 0) (hN : n.toNatClampNeg = N) (hbytes : N * 1 ≤ 536870912) (hcells : cells + 1 ≤ R.cells) (hslots : slots + N ≤ R.slots) (hdg : decode cc pc = .ok (.newarray .boolean, 2))
    (kk : ∀ (q : Nat) (H : Heap), cn_in D cy z0 ((q, .inl (cy 2, N, .inl (fun _ => 0))) :: ws) s H locs → W p l e R s m args below meth c H locs (cells + 1) (slots + N) Q (F0 m (pc + 2) ls (.ref q :: rest))) : W p l e R s m args below meth c H locs cells slots Q (F0 m pc ls (.int n :: rest)) := by
  refine va_newa (atype := .boolean) (ty := .boolean) (N' := N) (a0 := (N, .inl (fun _ => 0))) hC.1 hC.2.1 (hC.t wr_boolean) rfl hw.1 hw.2.1 hw.2.2.1 hw.2.2.2.1 (cn_A hw) (fun cA => rfl) hn hN hbytes hcells hslots hdg (fun q cA H1 hK1 hP hD hS => ?_)
  have hcA : cA = cy 2 := by
    have e1 : s.vm.findClass ("[" ++ (FieldType.toString .boolean)) = some cA := (hK1.2 6 _ rfl).2
    have e2 : s.vm.findClass ("[" ++ (FieldType.toString .boolean)) = some (cy 2) := (hw.1.2 2 _ rfl).2
    rw [e1] at e2
    exact Option.some.inj e2
  subst hcA
  exact kk q H1 (cn_front (K' := []) hw hP hD hS)
theorem cn_qK (hC : cx_C p s m args meth c cc own w nL ret) (hw : cn_in D cy z0 ws s H locs) {index : Nat} (hcl : Cond.classLink own index "RhymedThen$Kept" ∈ uw_U) {n : Int32} {N : Nat} (hn : ¬ n < 0) (hN : n.toNatClampNeg = N) (hbytes : N * 4 ≤ 536870912) (hcells : cells + 1 ≤ R.cells) (hslots : slots + N ≤ R.slots) (hdg : decode cc pc = .ok (.anewarray index, 3))
    (kk : ∀ (q : Nat) (H : Heap), cn_in D cy z0 ((q, .inl (cy 3, N, .inr (.inr (.inr (.inr (fun _ => none)))))) :: ws) s H locs → W p l e R s m args below meth c H locs (cells + 1) (slots + N) Q (F0 m (pc + 3) ls (.ref q :: rest))) : W p l e R s m args below meth c H locs cells slots Q (F0 m pc ls (.int n :: rest)) := by
  refine va_newq (C := "RhymedThen$Kept") hC.1 hC.2.1 hC.2.2.2.1 (hC.t hcl) hw.2.2.2.2.2.2.2.2 hw.1 hw.2.1 hw.2.2.1 hw.2.2.2.1 (cn_A hw) hn hN hbytes hcells hslots hdg (fun q cA H1 hK1 hP hD hS => ?_)
  have hcA : cA = cy 3 := by
    obtain ⟨_, _, _, _, _, e1⟩ := (hK1.2 6 _ rfl).2
    obtain ⟨_, _, _, _, _, e2⟩ := (hw.1.2 3 _ rfl).2
    have e3 := e1.symm.trans e2
    exact Option.some.inj e3
  subst hcA
  exact kk q H1 (cn_front (K' := []) hw hP hD hS)
theorem cn_qL (hC : cx_C p s m args meth c cc own w nL ret) (hw : cn_in D cy z0 ws s H locs) {index : Nat} (hcl : Cond.classLink own index "RhymedThen$Law" ∈ uw_U) {n : Int32} {N : Nat} (hn : ¬ n < 0) (hN : n.toNatClampNeg = N) (hbytes : N * 4 ≤ 536870912) (hcells : cells + 1 ≤ R.cells) (hslots : slots + N ≤ R.slots) (hdg : decode cc pc = .ok (.anewarray index, 3))
    (kk : ∀ (q : Nat) (H : Heap), cn_in D cy z0 ((q, .inl (cy 4, N, .inr (.inr (.inr (.inr (fun _ => none)))))) :: ws) s H locs → W p l e R s m args below meth c H locs (cells + 1) (slots + N) Q (F0 m (pc + 3) ls (.ref q :: rest))) : W p l e R s m args below meth c H locs cells slots Q (F0 m pc ls (.int n :: rest)) := by
  refine va_newq (C := "RhymedThen$Law") hC.1 hC.2.1 hC.2.2.2.1 (hC.t hcl) hw.2.2.2.2.2.2.1 hw.1 hw.2.1 hw.2.2.1 hw.2.2.2.1 (cn_A hw) hn hN hbytes hcells hslots hdg (fun q cA H1 hK1 hP hD hS => ?_)
  have hcA : cA = cy 4 := by
    obtain ⟨_, _, _, _, _, e1⟩ := (hK1.2 6 _ rfl).2
    obtain ⟨_, _, _, _, _, e2⟩ := (hw.1.2 4 _ rfl).2
    have e3 := e1.symm.trans e2
    exact Option.some.inj e3
  subst hcA
  exact kk q H1 (cn_front (K' := []) hw hP hD hS)
theorem cn_qS (hC : cx_C p s m args meth c cc own w nL ret) (hw : cn_in D cy z0 ws s H locs) {index : Nat} (hcl : Cond.classLink own index "RhymedThen$Sign" ∈ uw_U) {n : Int32} {N : Nat} (hn : ¬ n < 0) (hN : n.toNatClampNeg = N) (hbytes : N * 4 ≤ 536870912) (hcells : cells + 1 ≤ R.cells) (hslots : slots + N ≤ R.slots) (hdg : decode cc pc = .ok (.anewarray index, 3))
    (kk : ∀ (q : Nat) (H : Heap), cn_in D cy z0 ((q, .inl (cy 5, N, .inr (.inr (.inr (.inr (fun _ => none)))))) :: ws) s H locs → W p l e R s m args below meth c H locs (cells + 1) (slots + N) Q (F0 m (pc + 3) ls (.ref q :: rest))) : W p l e R s m args below meth c H locs cells slots Q (F0 m pc ls (.int n :: rest)) := by
  refine va_newq (C := "RhymedThen$Sign") hC.1 hC.2.1 hC.2.2.2.1 (hC.t hcl) hw.2.2.2.2.2.2.2.1 hw.1 hw.2.1 hw.2.2.1 hw.2.2.2.1 (cn_A hw) hn hN hbytes hcells hslots hdg (fun q cA H1 hK1 hP hD hS => ?_)
  have hcA : cA = cy 5 := by
    obtain ⟨_, _, _, _, _, e1⟩ := (hK1.2 6 _ rfl).2
    obtain ⟨_, _, _, _, _, e2⟩ := (hw.1.2 5 _ rfl).2
    have e3 := e1.symm.trans e2
    exact Option.some.inj e3
  subst hcA
  exact kk q H1 (cn_front (K' := []) hw hP hD hS)
theorem cn_put (hC : cx_C p s m args meth c cc own w nL ret) (hw : cn_in D cy z0 ws s H locs) (q0 : Nat) {a : Nat} {fs : List Value} {ci N index : Nat} {F : u_T} (he : ws[q0]? = some (a, .inr (ci, fs))) (hc : vwCl[ci]? = some (own, F, N)) (hin : ∀ w ∈ u_ws own F N, w ∈ uw_U) (ty0 : Nat → FieldType) (hty : ∀ k, k < N → parseFieldDescriptor (F k).2.2.1 = some (ty0 k)) (hnm : ∀ a, a < N → ∀ b, b < N → a ≠ b → (F a).2.1 ≠ (F b).2.1) (j : Nat) (hj : j < N) (hl : Cond.fieldLink own index own (F j).2.1 (F j).2.2.1 ∈ uw_U) (hdecl : (F j).1 = own) (hfin : (F j).2.2.2 = false) {ty : FieldType} {v : Value} (hd : parseFieldDescriptor (F j).2.2.1 = some ty) (hn : narrow ty v = v) (hfit : fits ty v = true) (hlen : j < fs.length) (hdg : decode cc pc = .ok (.putfield index, 3))
    (kk : ∀ (H : Heap) (locs : List Loc), cn_in D cy z0 (ws.set q0 (a, .inr (ci, fs.set j v))) s H locs → W p l e R s m args below meth c H locs cells slots Q (F0 m (pc + 3) ls rest)) : W p l e R s m args below meth c H locs cells slots Q (F0 m pc ls (v :: .ref a :: rest)) :=
  va_put hC.1 hC.2.1 hC.2.2.2.2.1 (fun x hx => uw_of (hin x hx)) ty0 hty hnm hC.2.2.2.1 hw.1 hw.2.1 hw.2.2.1 hw.2.2.2.1 q0 he hc j hj (hC.t hl) (fun x h9 => by rw [hdecl] at h9; exact h9) hfin hd hn hfit hlen hdg (fun H1 locs1 hP hD hS => kk H1 locs1 ⟨hw.1, hP, hD, hS, hw.2.2.2.2.1, hw.2.2.2.2.2⟩)
theorem cn_putF (hC : cx_C p s m args meth c cc own w nL ret) (hw : cn_in D cy z0 ws s H locs) (hin2 : meth.name = "<init>") (q0 : Nat) {a : Nat} {fs : List Value} {ci N index : Nat} {F : u_T} (he : ws[q0]? = some (a, .inr (ci, fs))) (hc : vwCl[ci]? = some (own, F, N)) (hin : ∀ w ∈ u_ws own F N, w ∈ uw_U) (ty0 : Nat → FieldType) (hty : ∀ k, k < N → parseFieldDescriptor (F k).2.2.1 = some (ty0 k)) (hnm : ∀ a, a < N → ∀ b, b < N → a ≠ b → (F a).2.1 ≠ (F b).2.1) (j : Nat) (hj : j < N) (hl : Cond.fieldLink own index own (F j).2.1 (F j).2.2.1 ∈ uw_U) (hdecl : (F j).1 = own) (hfin : (F j).2.2.2 = true) {ty : FieldType} {v : Value} (hd : parseFieldDescriptor (F j).2.2.1 = some ty) (hn : narrow ty v = v) (hfit : fits ty v = true) (hlen : j < fs.length) (hdg : decode cc pc = .ok (.putfield index, 3))
    (kk : ∀ (H : Heap) (locs : List Loc), cn_in D cy z0 (ws.set q0 (a, .inr (ci, fs.set j v))) s H locs → W p l e R s m args below meth c H locs cells slots Q (F0 m (pc + 3) ls rest)) : W p l e R s m args below meth c H locs cells slots Q (F0 m pc ls (v :: .ref a :: rest)) :=
  va_putF hC.1 hC.2.1 hC.2.2.2.2.1 (fun x hx => uw_of (hin x hx)) ty0 hty hnm hC.2.2.2.1 hw.1 hw.2.1 hw.2.2.1 hw.2.2.2.1 q0 he hc j hj (hC.t hl) (fun x h9 => by rw [hdecl] at h9; exact h9) hfin hin2 hdecl hd hn hfit hlen hdg (fun H1 locs1 hP hD hS => kk H1 locs1 ⟨hw.1, hP, hD, hS, hw.2.2.2.2.1, hw.2.2.2.2.2⟩)
theorem cn_get (hC : cx_C p s m args meth c cc own w nL ret) (hw : cn_in D cy z0 ws s H locs) (q0 : Nat) {a : Nat} {fs : List Value} {ci N index : Nat} {F : u_T} (he : ws[q0]? = some (a, .inr (ci, fs))) (hc : vwCl[ci]? = some (own, F, N)) (hin : ∀ w ∈ u_ws own F N, w ∈ uw_U) (j : Nat) (hj : j < N) (hl : Cond.fieldLink own index own (F j).2.1 (F j).2.2.1 ∈ uw_U) (hdecl : (F j).1 = own) {v : Value} (hv : fs[j]? = some v) (hdg : decode cc pc = .ok (.getfield index, 3))
    (kk : W p l e R s m args below meth c H locs cells slots Q (F0 m (pc + 3) ls (v :: rest))) : W p l e R s m args below meth c H locs cells slots Q (F0 m pc ls (.ref a :: rest)) :=
  va_get hC.1 hC.2.1 hC.2.2.2.2.1 (fun x hx => uw_of (hin x hx)) hC.2.2.2.1 hw.1 hw.2.1 q0 he hc j hj (hC.t hl) (fun x h9 => by rw [hdecl] at h9; exact h9) hv hdg kk
theorem cn_ast (hC : cx_C p s m args meth c cc own w nL ret) (hw : cn_in D cy z0 ws s H locs) (q0 t0 qk ci : Nat) {a : Nat} {r : vw_C} {n v : Nat} {vs : List Value} {f : Nat → Option Nat} {cA : ClassId} (ha : ws[q0]? = some (a, .inl (cA, n, .inr (.inr (.inr (.inr f)))))) (ht : (wd_ty cy)[t0]? = some (cA, .object r.1)) (hv : ws[qk]? = some (v, .inr (ci, vs))) (hc : vwCl[ci]? = some r) {i : Int32} (hin : vp_in i n) (hdg : decode cc pc = .ok (.aastore, 1))
    (kk : ∀ (H : Heap) (locs : List Loc), cn_in D cy z0 (ws.set q0 (a, .inl (cA, n, .inr (.inr (.inr (.inr (va_up f i.toNatClampNeg (some v)))))))) s H locs → W p l e R s m args below meth c H locs cells slots Q (F0 m (pc + 1) ls rest)) : W p l e R s m args below meth c H locs cells slots Q (F0 m pc ls (.ref v :: .int i :: .ref a :: rest)) :=
  va_astq hC.1 hC.2.1 hw.1 hw.2.1 hw.2.2.1 hw.2.2.2.1 q0 t0 qk ci ha ht hv hc hin hdg (fun H1 locs1 hP hD hS => kk H1 locs1 ⟨hw.1, hP, hD, hS, hw.2.2.2.2.1, hw.2.2.2.2.2⟩)
theorem cn_obj (hC : cx_C p s m args meth c cc own w nL ret) {index a : Nat} (hl : Cond.methodLink own index Lib.objectInit ∈ uw_U) (hls : ls.size = nL) (hR : 1 ≤ R.frames ∧ 12 ≤ R.locals) (hdg : decode cc pc = .ok (.invokespecial index, 3))
    (kk : W p l e R s m args below meth c H locs cells slots Q (F0 m (pc + 3) ls [])) : W p l e R s m args below meth c H locs cells slots Q (F0 m pc ls [.ref a]) :=
  W.objInit hC.1 hC.2.1 hC.2.2.2.1 (hC.t hl) (hC.t wi_ob086bc) (hC.t wo_obj) rfl (by rw [hC.2.2.1]; exact hls) rfl hdg hR.1 hR.2 kk
theorem cn_callI (hC : cx_C p s m args meth c cc own w nL ret) (hw : cn_in D cy z0 ws s H locs) {y : MethodName} {bytes : ByteArray} {maxL fr lo mc ms n i b : Nat} {post : (Nat → Nat) → va_W} (hM : cn_c l y (Cond.code y bytes maxL none) fr mc ms lo D cy z0 (.ref b :: As) ws post) (hu : Cond.code y bytes maxL none ∈ uw_U ∧ Cond.initialized y.cls ∈ uw_U ∧ Cond.methodLink own i y ∈ uw_U ∧ Cond.instanceMethod y ∈ uw_U) (hy : y.name = "<init>") (hd : y.cls ≠ "java/lang/invoke/MethodHandle" ∧ y.cls ≠ "java/lang/invoke/VarHandle" ∧ (parseMethodDescriptor y.desc).map (fun d => d.parameters.length) = some n) (hls : ls.size = nL) (hn : As.length = n) (hroom : (rest.map fun v => v.category).sum ≤ 8) (hR : fr + 1 ≤ R.frames ∧ 8 + (maxL + 11) + lo ≤ R.locals) (hcs : cells + mc ≤ R.cells ∧ slots + ms ≤ R.slots) (hst : st = As.reverse ++ .ref b :: rest) (hdg : decode cc pc = .ok (.invokespecial i, 3))
    (kk : ∀ (a : Nat → Nat) (H : Heap) (locs : List Loc), cn_in D cy z0 (post a) s H locs → W p l e R s m args below meth c H locs (cells + mc) (slots + ms) Q (F0 m (pc + 3) ls rest)) : W p l e R s m args below meth c H locs cells slots Q (F0 m pc ls st) := by
  subst hst
  refine va_callv (va_runI (As := As) (rest := rest) hC.S hM (cwI n hC.2.2.2.2.1 (uw_gm hu.1) rfl rfl rfl (hC.t hu.2.1) (hC.t hu.2.2.1) (hC.t hu.2.2.2) hy hd hR) ⟨cn_blind, fun U hU hW => ⟨rfl, va_K.moved hW.alike hw.1, by rw [hU]; exact hw.2.1, hw.2.2.1, by rw [hU]; exact Nat.le_trans hw.2.2.2.2.1 hw.2.2.2.1.1, cn_K.warm hW hw.2.2.2.2.2⟩⟩ rfl hn hls rfl (lv_room hroom) hdg hcs) hw.2.2.2.1 (fun q _ h => h) (fun q h => h) (fun x t H1 locs1 ht hvm hp hB hz hk hS => ?_)
  exact kk x H1 locs1 ⟨hw.1, by rw [← ht]; exact hB.1, hB.2, hS, hw.2.2.2.2.1, hw.2.2.2.2.2⟩
theorem cn_callN (hC : cx_C p s m args meth c cc own w nL ret) (hw : cn_in D cy z0 ws s H locs) {y : MethodName} {bytes : ByteArray} {maxL fr lo mc ms n i b : Nat} {post : (Nat → Nat) → va_W} (hM : cn_c l y (Cond.code y bytes maxL none) fr mc ms lo D cy z0 (.ref b :: As) ws post) (hu : Cond.code y bytes maxL none ∈ uw_U ∧ Cond.initialized y.cls ∈ uw_U ∧ (own, i, y) ∈ cn_nws ∧ Cond.instanceMethod y ∈ uw_U) (hy : y.name = "<init>") (hd : y.cls ≠ "java/lang/invoke/MethodHandle" ∧ y.cls ≠ "java/lang/invoke/VarHandle" ∧ (parseMethodDescriptor y.desc).map (fun d => d.parameters.length) = some n) (hls : ls.size = nL) (hn : As.length = n) (hroom : (rest.map fun v => v.category).sum ≤ 8) (hR : fr + 1 ≤ R.frames ∧ 8 + (maxL + 11) + lo ≤ R.locals) (hcs : cells + mc ≤ R.cells ∧ slots + ms ≤ R.slots) (hst : st = As.reverse ++ .ref b :: rest) (hdg : decode cc pc = .ok (.invokespecial i, 3))
    (kk : ∀ (a : Nat → Nat) (H : Heap) (locs : List Loc), cn_in D cy z0 (post a) s H locs → W p l e R s m args below meth c H locs (cells + mc) (slots + ms) Q (F0 m (pc + 3) ls rest)) : W p l e R s m args below meth c H locs cells slots Q (F0 m pc ls st) := by
  subst hst
  refine va_callv (va_runIN (As := As) (rest := rest) hC.S hM ⟨va_cnB n hC.2.2.2.2.1 (uw_gm hu.1) rfl rfl rfl (hw.2.2.2.2.2.1 _ hu.2.2.1) (hC.t hu.2.1) hd hR, hy, hC.t hu.2.2.2⟩ ⟨cn_blind, fun U hU hW => ⟨rfl, va_K.moved hW.alike hw.1, by rw [hU]; exact hw.2.1, hw.2.2.1, by rw [hU]; exact Nat.le_trans hw.2.2.2.2.1 hw.2.2.2.1.1, cn_K.warm hW hw.2.2.2.2.2⟩⟩ rfl hn hls rfl (lv_room hroom) hdg hcs) hw.2.2.2.1 (fun q _ h => h) (fun q h => h) (fun x t H1 locs1 ht hvm hp hB hz hk hS => ?_)
  exact kk x H1 locs1 ⟨hw.1, by rw [← ht]; exact hB.1, hB.2, hS, hw.2.2.2.2.1, hw.2.2.2.2.2⟩
end CNR
theorem cn_beg {l : Launch} {y : MethodName} {bytes : ByteArray} {maxL fr mc ms lo : Nat} {D : va_G} {cy : Nat → ClassId} {z0 : Nat} {as : List Value} {ws : va_W} {post : (Nat → Nat) → va_W} (hy : plainName y.cls = true) (hi : y.name = "<init>")
    (body : ∀ (p : Program) (e : Env) (s : State) (m : MethodId) (below : List Frame) (meth : Method) (c : Code), cx_C p s m as.toArray meth c bytes y.cls (Cond.code y bytes maxL none) maxL none → meth.name = "<init>" → cn_in D cy z0 ws s s.heap [] →
      W p l e { frames := fr, cells := mc, slots := ms, locals := lo } s m as.toArray below meth c s.heap [] 0 0 (MQ below (va_Qv (fun (_ : Nat → Nat) => True) (fun a t => cn_B D z0 (post a) t) (fun q => z0 ≤ q)) as.toArray s mc ms (fun q => z0 ≤ q)) (entryFrame m as.toArray maxL)) : cn_c l y (Cond.code y bytes maxL none) fr mc ms lo D cy z0 as ws post := by
  refine Met.ofW (cc := bytes) (maxL := maxL) (ret := none) hy rfl ?_
  intro p e s m args below meth c s₁ B hml hv
  obtain ⟨rfl, hK, hP, hD, hz, hN⟩ := hv
  exact body p e s m below meth c ⟨B.exec, B.bytes, hml, findClass_of_methodNamed B.named, atoms_spec (ws := uw_m (Cond.code y bytes maxL none)) B.pre, B.returns, B.notSynchronized⟩ ((name_of_methodNamed B.named B.method).1.trans hi) ⟨hK, hP, hD, va_S.rf, hz, hN⟩
theorem cn_ret {p : Program} {l : Launch} {e : Env} {R : Room} {s : State} {m : MethodId} {args : Array Value} {below : List Frame} {meth : Method} {c : Code} {H : Heap} {locs : List Loc} {mc ms cells slots : Nat} {cc : ByteArray} {own : String} {w : Cond} {nL pc : Nat} {ls : Array Slot} {D : va_G} {cy : Nat → ClassId} {z0 : Nat} {ws : va_W} {post : (Nat → Nat) → va_W} (hC : cx_C p s m args meth c cc own w nL none) (a : Nat → Nat) (hw : cn_in D cy z0 ws s H locs) (hp : ws = post a) (h1 : cells ≤ mc) (h2 : slots ≤ ms) (hdg : decode cc pc = .ok (.return_, 1)) : W p l e R s m args below meth c H locs cells slots (MQ below (va_Qv (fun (_ : Nat → Nat) => True) (fun a t => cn_B D z0 (post a) t) (fun q => z0 ≤ q)) args s mc ms (fun q => z0 ≤ q)) (F0 m pc ls []) :=
  W.widen h1 h2 (W.vret hC.1 hC.2.1 hC.2.2.2.2.2.1 (fun t ht hW => ⟨⟨a, rfl, trivial, by subst hp; exact ⟨by rw [ht]; exact hw.2.1, hw.2.2.1⟩⟩, hw.2.2.2.1.F ht⟩) hw.2.2.2.1.2.2 hdg (hlocks := hC.2.2.2.2.2.2))
