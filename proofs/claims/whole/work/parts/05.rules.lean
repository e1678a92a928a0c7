def cx_C (p : Program) (s : State) (m : MethodId) (args : Array Value) (meth : Method) (c : Code) (cc : ByteArray) (own : String) (w : Cond) (nL : Nat) (ret : Option FieldType) : Prop :=
  p.tables.exec = Jvm.exec ∧ c.code = cc ∧ c.maxLocals = nL ∧ s.vm.findClass own = some m.cls ∧ (∀ x ∈ uw_m w, x.before args s = true) ∧ meth.sig.returnType = ret ∧ meth.locks = false
theorem cx_C.S {p : Program} {s : State} {m : MethodId} {args : Array Value} {meth : Method} {c : Code} {cc : ByteArray} {own : String} {w : Cond} {nL : Nat} {ret : Option FieldType} (h : cx_C p s m args meth c cc own w nL ret) : CallFix p m c cc nL s args (uw_m w) own := ⟨h.1, h.2.1, h.2.2.1, h.2.2.2.1, h.2.2.2.2.1⟩
theorem cx_C.t {p : Program} {s : State} {m : MethodId} {args : Array Value} {meth : Method} {c : Code} {cc : ByteArray} {own : String} {w x : Cond} {nL : Nat} {ret : Option FieldType} (h : cx_C p s m args meth c cc own w nL ret) (hx : x ∈ uw_U) : x.before args s = true := h.2.2.2.2.1 x (uw_of hx)
/-- what is the same for every use of a field: its class's number, its place, its type's code -/
def fd_ok (ci j t : Nat) (C : String) (F : u_T) (N : Nat) : Prop := vwCl[ci]? = some (C, F, N) ∧ (∀ w ∈ u_ws C F N, w ∈ uw_U) ∧ j < N ∧ (F j).1 = C ∧ (wd_fl ci)[j]? = some t
def fp_ok (j : Nat) (F : u_T) (N : Nat) (ty : FieldType) : Prop := (∃ ty0 : Nat → FieldType, ∀ k, k < N → parseFieldDescriptor (F k).2.2.1 = some (ty0 k)) ∧ (∀ a, a < N → ∀ b, b < N → a ≠ b → (F a).2.1 ≠ (F b).2.1) ∧ (F j).2.2.2 = false ∧ parseFieldDescriptor (F j).2.2.1 = some ty
def hd_ok (y : MethodName) (C : String) (n : Nat) : Prop := y.cls = C ∧ y.cls ≠ "java/lang/invoke/MethodHandle" ∧ y.cls ≠ "java/lang/invoke/VarHandle" ∧ (parseMethodDescriptor y.desc).map (fun d => d.parameters.length) = some n
/-- the words of a call -/
def cw_V (own : String) (i : Nat) (C : String) (y : MethodName) (w : Cond) : Prop := w ∈ uw_U ∧ Cond.methodLink own i y ∈ uw_U ∧ Cond.instanceMethod y ∈ uw_U ∧ Cond.selects C y y ∈ uw_U ∧ Cond.initialized C ∈ uw_U
def cw_S (own : String) (i : Nat) (y : MethodName) (w : Cond) : Prop := w ∈ uw_U ∧ Cond.methodLink own i y ∈ uw_U ∧ Cond.static y ∈ uw_U ∧ Cond.initialized y.cls ∈ uw_U
section RUL
variable {p : Program} {l : Launch} {e : Env} {R : Room} {s : State} {m : MethodId} {args : Array Value} {below : List Frame} {meth : Method} {c : Code} {H : Heap} {locs : List Loc} {cells slots : Nat} {Q : State → Prop}
variable {cc : ByteArray} {own : String} {w : Cond} {nL : Nat} {ret : Option FieldType} {pc : Nat} {ls : Array Slot} {rest : List Value}
variable {T : wd_T} {D : va_G} {cy : Nat → ClassId} {z0 : Nat} {ad : Nat → Nat} {u : Nat × Nat} {M M1 : mm_M} {X : va_W}
theorem lt_i {x y : Int32} (h : y = x) (k : W p l e R s m args below meth c H locs cells slots Q (F0 m pc ls (.int y :: rest))) : W p l e R s m args below meth c H locs cells slots Q (F0 m pc ls (.int x :: rest)) := h ▸ k
theorem lt_l {x y : Int64} (h : y = x) (k : W p l e R s m args below meth c H locs cells slots Q (F0 m pc ls (.long y :: rest))) : W p l e R s m args below meth c H locs cells slots Q (F0 m pc ls (.long x :: rest)) := h ▸ k

theorem lc_eq (hx : p.tables.exec = Jvm.exec) (hb : c.code = cc) {x y : Int64} {off : Int} {tgt : Nat} (hd1 : decode cc pc = .ok (.lcmp, 1)) (hdg : decode cc (pc + 1) = .ok (.ifCond .eq off, 3)) (ht : ((pc + 1 : Nat) : Int) + off = (tgt : Int))
    (kt : x = y → W p l e R s m args below meth c H locs cells slots Q (F0 m tgt ls rest)) (kf : ¬ x = y → W p l e R s m args below meth c H locs cells slots Q (F0 m (pc + 4) ls rest)) : W p l e R s m args below meth c H locs cells slots Q (F0 m pc ls (.long y :: .long x :: rest)) :=
  W.lcmp hx hb hd1 (lv_if_eq hx hb hdg ht (fun h => kt ((lg_cmp_eq x y).mp h)) (fun h => kf (fun h2 => h ((lg_cmp_eq x y).mpr h2))))
theorem lc_ne (hx : p.tables.exec = Jvm.exec) (hb : c.code = cc) {x y : Int64} {off : Int} {tgt : Nat} (hd1 : decode cc pc = .ok (.lcmp, 1)) (hdg : decode cc (pc + 1) = .ok (.ifCond .ne off, 3)) (ht : ((pc + 1 : Nat) : Int) + off = (tgt : Int))
    (kt : ¬ x = y → W p l e R s m args below meth c H locs cells slots Q (F0 m tgt ls rest)) (kf : x = y → W p l e R s m args below meth c H locs cells slots Q (F0 m (pc + 4) ls rest)) : W p l e R s m args below meth c H locs cells slots Q (F0 m pc ls (.long y :: .long x :: rest)) :=
  W.lcmp hx hb hd1 (lv_if_ne hx hb hdg ht (fun h => kt (fun h2 => h ((lg_cmp_eq x y).mpr h2))) (fun h => kf ((lg_cmp_eq x y).mp h)))
theorem lc_lt (hx : p.tables.exec = Jvm.exec) (hb : c.code = cc) {x y : Int64} {off : Int} {tgt : Nat} (hd1 : decode cc pc = .ok (.lcmp, 1)) (hdg : decode cc (pc + 1) = .ok (.ifCond .lt off, 3)) (ht : ((pc + 1 : Nat) : Int) + off = (tgt : Int))
    (kt : x < y → W p l e R s m args below meth c H locs cells slots Q (F0 m tgt ls rest)) (kf : ¬ x < y → W p l e R s m args below meth c H locs cells slots Q (F0 m (pc + 4) ls rest)) : W p l e R s m args below meth c H locs cells slots Q (F0 m pc ls (.long y :: .long x :: rest)) :=
  W.lcmp hx hb hd1 (lv_if_lt hx hb hdg ht (fun h => kt ((lg_cmp_lt x y).mp h)) (fun h => kf (fun h2 => h ((lg_cmp_lt x y).mpr h2))))
theorem lc_ge (hx : p.tables.exec = Jvm.exec) (hb : c.code = cc) {x y : Int64} {off : Int} {tgt : Nat} (hd1 : decode cc pc = .ok (.lcmp, 1)) (hdg : decode cc (pc + 1) = .ok (.ifCond .ge off, 3)) (ht : ((pc + 1 : Nat) : Int) + off = (tgt : Int))
    (kt : y ≤ x → W p l e R s m args below meth c H locs cells slots Q (F0 m tgt ls rest)) (kf : ¬ y ≤ x → W p l e R s m args below meth c H locs cells slots Q (F0 m (pc + 4) ls rest)) : W p l e R s m args below meth c H locs cells slots Q (F0 m pc ls (.long y :: .long x :: rest)) :=
  W.lcmp hx hb hd1 (lv_if_ge hx hb hdg ht (fun h => kt ((lg_cmp_ge x y).mp h)) (fun h => kf (fun h2 => h ((lg_cmp_ge x y).mpr h2))))
theorem lc_gt (hx : p.tables.exec = Jvm.exec) (hb : c.code = cc) {x y : Int64} {off : Int} {tgt : Nat} (hd1 : decode cc pc = .ok (.lcmp, 1)) (hdg : decode cc (pc + 1) = .ok (.ifCond .gt off, 3)) (ht : ((pc + 1 : Nat) : Int) + off = (tgt : Int))
    (kt : y < x → W p l e R s m args below meth c H locs cells slots Q (F0 m tgt ls rest)) (kf : ¬ y < x → W p l e R s m args below meth c H locs cells slots Q (F0 m (pc + 4) ls rest)) : W p l e R s m args below meth c H locs cells slots Q (F0 m pc ls (.long y :: .long x :: rest)) :=
  W.lcmp hx hb hd1 (lv_if_gt hx hb hdg ht (fun h => kt ((lg_cmp_gt x y).mp h)) (fun h => kf (fun h2 => h ((lg_cmp_gt x y).mpr h2))))
theorem lc_le (hx : p.tables.exec = Jvm.exec) (hb : c.code = cc) {x y : Int64} {off : Int} {tgt : Nat} (hd1 : decode cc pc = .ok (.lcmp, 1)) (hdg : decode cc (pc + 1) = .ok (.ifCond .le off, 3)) (ht : ((pc + 1 : Nat) : Int) + off = (tgt : Int))
    (kt : x ≤ y → W p l e R s m args below meth c H locs cells slots Q (F0 m tgt ls rest)) (kf : ¬ x ≤ y → W p l e R s m args below meth c H locs cells slots Q (F0 m (pc + 4) ls rest)) : W p l e R s m args below meth c H locs cells slots Q (F0 m pc ls (.long y :: .long x :: rest)) :=
  W.lcmp hx hb hd1 (lv_if_le hx hb hdg ht (fun h => kt ((lg_cmp_le x y).mp h)) (fun h => kf (fun h2 => h ((lg_cmp_le x y).mpr h2))))
theorem rg_i (hC : cx_C p s m args meth c cc own w nL ret) (hw : wd_in T D cy z0 ad u M X s H locs) (k : Nat) {j ci N index : Nat} {C : String} {F : u_T} (hk : k < T.2.2.1) (hq : T.1 k = (0, ci)) (hf : fd_ok ci j 0 C F N) (hl : Cond.fieldLink own index C (F j).2.1 (F j).2.2.1 ∈ uw_U) (hdg : decode cc pc = .ok (.getfield index, 3))
    (kk : W p l e R s m args below meth c H locs cells slots Q (F0 m (pc + 3) ls (.int (M.1 k j) :: rest))) : W p l e R s m args below meth c H locs cells slots Q (F0 m pc ls (.ref (ad k) :: rest)) :=
  va_get hC.1 hC.2.1 hC.2.2.2.2.1 (fun x hx => uw_of (hf.2.1 x hx)) hC.2.2.2.1 hw.1 hw.2.1 k (wd_ob hk hq) hf.1 j hf.2.2.1 (hC.t hl) (fun x h9 => by rw [hf.2.2.2.1] at h9; exact h9) (wd_fs_at hf.2.2.2.2) hdg kk
theorem rg_r (hC : cx_C p s m args meth c cc own w nL ret) (hw : wd_in T D cy z0 ad u M X s H locs) (k : Nat) {j ci N index : Nat} {C : String} {F : u_T} (hk : k < T.2.2.1) (hq : T.1 k = (0, ci)) (hf : fd_ok ci j 1 C F N) (hl : Cond.fieldLink own index C (F j).2.1 (F j).2.2.1 ∈ uw_U) (hdg : decode cc pc = .ok (.getfield index, 3))
    (kk : W p l e R s m args below meth c H locs cells slots Q (F0 m (pc + 3) ls (.ref (ad (T.2.1 k j)) :: rest))) : W p l e R s m args below meth c H locs cells slots Q (F0 m pc ls (.ref (ad k) :: rest)) :=
  va_get hC.1 hC.2.1 hC.2.2.2.2.1 (fun x hx => uw_of (hf.2.1 x hx)) hC.2.2.2.1 hw.1 hw.2.1 k (wd_ob hk hq) hf.1 j hf.2.2.1 (hC.t hl) (fun x h9 => by rw [hf.2.2.2.1] at h9; exact h9) (wd_fs_at hf.2.2.2.2) hdg kk
theorem rg_8 (hC : cx_C p s m args meth c cc own w nL ret) (hw : wd_in T D cy z0 ad u M X s H locs) (k : Nat) {j ci N index : Nat} {C : String} {F : u_T} (hk : k < T.2.2.1) (hq : T.1 k = (0, ci)) (hf : fd_ok ci j 2 C F N) (hl : Cond.fieldLink own index C (F j).2.1 (F j).2.2.1 ∈ uw_U) (hdg : decode cc pc = .ok (.getfield index, 3))
    (kk : W p l e R s m args below meth c H locs cells slots Q (F0 m (pc + 3) ls (.ref u.1 :: rest))) : W p l e R s m args below meth c H locs cells slots Q (F0 m pc ls (.ref (ad k) :: rest)) :=
  va_get hC.1 hC.2.1 hC.2.2.2.2.1 (fun x hx => uw_of (hf.2.1 x hx)) hC.2.2.2.1 hw.1 hw.2.1 k (wd_ob hk hq) hf.1 j hf.2.2.1 (hC.t hl) (fun x h9 => by rw [hf.2.2.2.1] at h9; exact h9) (wd_fs_at hf.2.2.2.2) hdg kk
theorem rg_9 (hC : cx_C p s m args meth c cc own w nL ret) (hw : wd_in T D cy z0 ad u M X s H locs) (k : Nat) {j ci N index : Nat} {C : String} {F : u_T} (hk : k < T.2.2.1) (hq : T.1 k = (0, ci)) (hf : fd_ok ci j 3 C F N) (hl : Cond.fieldLink own index C (F j).2.1 (F j).2.2.1 ∈ uw_U) (hdg : decode cc pc = .ok (.getfield index, 3))
    (kk : W p l e R s m args below meth c H locs cells slots Q (F0 m (pc + 3) ls (.ref u.2 :: rest))) : W p l e R s m args below meth c H locs cells slots Q (F0 m pc ls (.ref (ad k) :: rest)) :=
  va_get hC.1 hC.2.1 hC.2.2.2.2.1 (fun x hx => uw_of (hf.2.1 x hx)) hC.2.2.2.1 hw.1 hw.2.1 k (wd_ob hk hq) hf.1 j hf.2.2.1 (hC.t hl) (fun x h9 => by rw [hf.2.2.2.1] at h9; exact h9) (wd_fs_at hf.2.2.2.2) hdg kk
theorem rg_p (hC : cx_C p s m args meth c cc own w nL ret) (hw : wd_in T D cy z0 ad u M X s H locs) (k : Nat) {j ci N index : Nat} {C : String} {F : u_T} (hk : k < T.2.2.1) (hq : T.1 k = (0, ci)) (hf : fd_ok ci j 1 C F N) (hl : Cond.fieldLink own index C (F j).2.1 (F j).2.2.1 ∈ uw_U) {q : Nat} (hrt : T.2.1 k j = q) (hdg : decode cc pc = .ok (.getfield index, 3))
    (kk : W p l e R s m args below meth c H locs cells slots Q (F0 m (pc + 3) ls (.ref (ad q) :: rest))) : W p l e R s m args below meth c H locs cells slots Q (F0 m pc ls (.ref (ad k) :: rest)) := by
  subst hrt
  exact rg_r hC hw k hk hq hf hl hdg kk
theorem wd_fs_set {rt : Nat → Nat → Nat} {k j : Nat} {v : Int32} {ts : List Nat} (h : ts[j]? = some 0) : (wd_fs ad u rt M k ts).set j (.int v) = wd_fs ad u rt (mm_si M k j v) k ts := by
  have hj : j < ts.length := (List.getElem?_eq_some_iff.mp h).1
  apply List.ext_getElem?
  intro i
  rw [List.getElem?_set]
  by_cases hi : j = i
  · subst hi
    rw [if_pos rfl, if_pos (by simpa [wd_fs] using hj), wd_fs_at h]
    simp [wd_v, mm_si]
  · rw [if_neg hi]
    simp only [wd_fs, List.getElem?_mapIdx]
    congr 1
    funext t
    unfold wd_v
    have h2 : (mm_si M k j v).1 k i = M.1 k i := by simp [mm_si, Ne.symm hi]
    rw [h2]
theorem rp_i (hC : cx_C p s m args meth c cc own w nL ret) (hw : wd_in T D cy z0 ad u M X s H locs) (k : Nat) {j ci N index : Nat} {C : String} {F : u_T} (hk : k < T.2.2.1) (hq : T.1 k = (0, ci)) (hf : fd_ok ci j 0 C F N) (hl : Cond.fieldLink own index C (F j).2.1 (F j).2.2.1 ∈ uw_U) {ty : FieldType} (hp : fp_ok j F N ty) {v : Int32} (hn : narrow ty (.int v) = .int v) (hfit : fits ty (.int v) = true) (hdg : decode cc pc = .ok (.putfield index, 3)) (hM : M1 = mm_si M k j v)
    (kk : ∀ (H : Heap) (locs : List Loc), wd_in T D cy z0 ad u M1 X s H locs → W p l e R s m args below meth c H locs cells slots Q (F0 m (pc + 3) ls rest)) : W p l e R s m args below meth c H locs cells slots Q (F0 m pc ls (.int v :: .ref (ad k) :: rest)) := by
  obtain ⟨⟨ty0, hty⟩, hnm, hfin, hd⟩ := hp
  have hj : j < (wd_fl ci).length := (List.getElem?_eq_some_iff.mp hf.2.2.2.2).1
  refine va_put hC.1 hC.2.1 hC.2.2.2.2.1 (fun x hx => uw_of (hf.2.1 x hx)) ty0 hty hnm hC.2.2.2.1 hw.1 hw.2.1 hw.2.2.1 hw.2.2.2.1 k (wd_ob hk hq) hf.1 j hf.2.2.1 (hC.t hl) (fun x h9 => by rw [hf.2.2.2.1] at h9; exact h9) hfin hd hn hfit (by simpa [wd_fs] using hj) hdg (fun H1 locs1 hP hD hS => ?_)
  rw [wd_fs_set hf.2.2.2.2] at hP hD
  have he : wd_e T cy ad u (mm_si M k j v) k = .inr (ci, wd_fs ad u T.2.1 (mm_si M k j v) k (wd_fl ci)) := by rw [wd_e, hq]; rfl
  rw [wd_set hk he mm_si_o rfl, ← hM] at hP hD
  exact kk H1 locs1 ⟨hw.1, hP, hD, hS, hw.2.2.2.2.1, hw.2.2.2.2.2⟩
theorem wd_ai {k n : Nat} (hk : k < T.2.2.1) (hq : T.1 k = (1, n)) : (wd_ws T cy ad u M X)[k]? = some (ad k, .inl (cy 0, n, .inl (M.1 k))) := by
  rw [wd_at hk, wd_e, hq]; rfl
theorem wd_al {k n : Nat} (hk : k < T.2.2.1) (hq : T.1 k = (2, n)) : (wd_ws T cy ad u M X)[k]? = some (ad k, .inl (cy 1, n, .inr (.inl (M.2.1 k)))) := by
  rw [wd_at hk, wd_e, hq]; rfl
theorem wd_az {k n : Nat} (hk : k < T.2.2.1) (hq : T.1 k = (3, n)) : (wd_ws T cy ad u M X)[k]? = some (ad k, .inl (cy 2, n, .inl (M.1 k))) := by
  rw [wd_at hk, wd_e, hq]; rfl
theorem wd_aq {k n t : Nat} (hk : k < T.2.2.1) (hq : T.1 k = (t + 4, n)) : (wd_ws T cy ad u M X)[k]? = some (ad k, .inl (cy (t + 3), n, .inr (.inr (.inr (.inr (fun j => some (ad (T.2.1 k j)))))))) := by
  rw [wd_at hk, wd_e, hq]; rfl
theorem ra_i (hC : cx_C p s m args meth c cc own w nL ret) (hw : wd_in T D cy z0 ad u M X s H locs) (k : Nat) {n : Nat} (hk : k < T.2.2.1) (hq : T.1 k = (1, n)) {i : Int32} (hin : ix_ok i n) (hdg : decode cc pc = .ok (.iaload, 1))
    (kk : W p l e R s m args below meth c H locs cells slots Q (F0 m (pc + 1) ls (.int (M.1 k i.toNatClampNeg) :: rest))) : W p l e R s m args below meth c H locs cells slots Q (F0 m pc ls (.int i :: .ref (ad k) :: rest)) :=
  va_iald hC.1 hC.2.1 hw.1 hw.2.1 k 0 (wd_ai hk hq) rfl hin hdg kk
theorem ra_l (hC : cx_C p s m args meth c cc own w nL ret) (hw : wd_in T D cy z0 ad u M X s H locs) (k : Nat) {n : Nat} (hk : k < T.2.2.1) (hq : T.1 k = (2, n)) {i : Int32} (hin : ix_ok i n) (hdg : decode cc pc = .ok (.laload, 1))
    (kk : W p l e R s m args below meth c H locs cells slots Q (F0 m (pc + 1) ls (.long (M.2.1 k i.toNatClampNeg) :: rest))) : W p l e R s m args below meth c H locs cells slots Q (F0 m pc ls (.int i :: .ref (ad k) :: rest)) :=
  va_lald hC.1 hC.2.1 hw.1 hw.2.1 k 1 (wd_al hk hq) rfl hin hdg kk
theorem ra_z (hC : cx_C p s m args meth c cc own w nL ret) (hw : wd_in T D cy z0 ad u M X s H locs) (k : Nat) {n : Nat} (hk : k < T.2.2.1) (hq : T.1 k = (3, n)) {i : Int32} (hin : ix_ok i n) (hdg : decode cc pc = .ok (.baload, 1))
    (kk : W p l e R s m args below meth c H locs cells slots Q (F0 m (pc + 1) ls (.int (M.1 k i.toNatClampNeg) :: rest))) : W p l e R s m args below meth c H locs cells slots Q (F0 m pc ls (.int i :: .ref (ad k) :: rest)) :=
  va_zald hC.1 hC.2.1 hw.1 hw.2.1 k 2 (wd_az hk hq) rfl hin hdg kk
theorem ra_K (hC : cx_C p s m args meth c cc own w nL ret) (hw : wd_in T D cy z0 ad u M X s H locs) (k : Nat) {n : Nat} (hk : k < T.2.2.1) (hq : T.1 k = (4, n)) {i : Int32} (hin : ix_ok i n) (hdg : decode cc pc = .ok (.aaload, 1))
    (kk : W p l e R s m args below meth c H locs cells slots Q (F0 m (pc + 1) ls (.ref (ad (T.2.1 k i.toNatClampNeg)) :: rest))) : W p l e R s m args below meth c H locs cells slots Q (F0 m pc ls (.int i :: .ref (ad k) :: rest)) :=
  va_aldq hC.1 hC.2.1 hw.1 hw.2.1 k 3 (wd_aq (t := 0) hk hq) rfl hin hdg kk
theorem ra_L (hC : cx_C p s m args meth c cc own w nL ret) (hw : wd_in T D cy z0 ad u M X s H locs) (k : Nat) {n : Nat} (hk : k < T.2.2.1) (hq : T.1 k = (5, n)) {i : Int32} (hin : ix_ok i n) (hdg : decode cc pc = .ok (.aaload, 1))
    (kk : W p l e R s m args below meth c H locs cells slots Q (F0 m (pc + 1) ls (.ref (ad (T.2.1 k i.toNatClampNeg)) :: rest))) : W p l e R s m args below meth c H locs cells slots Q (F0 m pc ls (.int i :: .ref (ad k) :: rest)) :=
  va_aldq hC.1 hC.2.1 hw.1 hw.2.1 k 4 (wd_aq (t := 1) hk hq) rfl hin hdg kk
theorem ra_S (hC : cx_C p s m args meth c cc own w nL ret) (hw : wd_in T D cy z0 ad u M X s H locs) (k : Nat) {n : Nat} (hk : k < T.2.2.1) (hq : T.1 k = (6, n)) {i : Int32} (hin : ix_ok i n) (hdg : decode cc pc = .ok (.aaload, 1))
    (kk : W p l e R s m args below meth c H locs cells slots Q (F0 m (pc + 1) ls (.ref (ad (T.2.1 k i.toNatClampNeg)) :: rest))) : W p l e R s m args below meth c H locs cells slots Q (F0 m pc ls (.int i :: .ref (ad k) :: rest)) :=
  va_aldq hC.1 hC.2.1 hw.1 hw.2.1 k 5 (wd_aq (t := 2) hk hq) rfl hin hdg kk
theorem mm_si_k {k j : Nat} {v : Int32} : (mm_si M k j v).1 k = upd (M.1 k) j v := by funext b; simp [mm_si, upd]
theorem mm_sl_k {k j : Nat} {v : Int64} : (mm_sl M k j v).2.1 k = vp_updL (M.2.1 k) j v := by funext b; simp [mm_sl, vp_updL]
theorem rs_i (hC : cx_C p s m args meth c cc own w nL ret) (hw : wd_in T D cy z0 ad u M X s H locs) (k : Nat) {n : Nat} (hk : k < T.2.2.1) (hq : T.1 k = (1, n)) {i : Int32} {x : Int32} (hin : ix_ok i n) (hdg : decode cc pc = .ok (.iastore, 1)) (hM : M1 = mm_si M k i.toNatClampNeg x)
    (kk : ∀ (H : Heap) (locs : List Loc), wd_in T D cy z0 ad u M1 X s H locs → W p l e R s m args below meth c H locs cells slots Q (F0 m (pc + 1) ls rest)) : W p l e R s m args below meth c H locs cells slots Q (F0 m pc ls (.int x :: .int i :: .ref (ad k) :: rest)) := by
  refine va_iast hC.1 hC.2.1 hw.1 hw.2.1 hw.2.2.1 hw.2.2.2.1 k 0 (wd_ai hk hq) rfl hin hdg (fun H1 locs1 hP hD hS => ?_)
  have he : wd_e T cy ad u (mm_si M k i.toNatClampNeg x) k = .inl (cy 0, n, .inl (upd (M.1 k) i.toNatClampNeg x)) := by rw [wd_e, hq]; show _ = _; rw [← mm_si_k]; rfl
  rw [wd_set hk he mm_si_o rfl, ← hM] at hP hD
  exact kk H1 locs1 ⟨hw.1, hP, hD, hS, hw.2.2.2.2.1, hw.2.2.2.2.2⟩
theorem rs_l (hC : cx_C p s m args meth c cc own w nL ret) (hw : wd_in T D cy z0 ad u M X s H locs) (k : Nat) {n : Nat} (hk : k < T.2.2.1) (hq : T.1 k = (2, n)) {i : Int32} {x : Int64} (hin : ix_ok i n) (hdg : decode cc pc = .ok (.lastore, 1)) (hM : M1 = mm_sl M k i.toNatClampNeg x)
    (kk : ∀ (H : Heap) (locs : List Loc), wd_in T D cy z0 ad u M1 X s H locs → W p l e R s m args below meth c H locs cells slots Q (F0 m (pc + 1) ls rest)) : W p l e R s m args below meth c H locs cells slots Q (F0 m pc ls (.long x :: .int i :: .ref (ad k) :: rest)) := by
  refine va_last hC.1 hC.2.1 hw.1 hw.2.1 hw.2.2.1 hw.2.2.2.1 k 1 (wd_al hk hq) rfl hin hdg (fun H1 locs1 hP hD hS => ?_)
  have he : wd_e T cy ad u (mm_sl M k i.toNatClampNeg x) k = .inl (cy 1, n, .inr (.inl (vp_updL (M.2.1 k) i.toNatClampNeg x))) := by rw [wd_e, hq]; show _ = _; rw [← mm_sl_k]; rfl
  rw [wd_set hk he mm_sl_o rfl, ← hM] at hP hD
  exact kk H1 locs1 ⟨hw.1, hP, hD, hS, hw.2.2.2.2.1, hw.2.2.2.2.2⟩
theorem rs_z (hC : cx_C p s m args meth c cc own w nL ret) (hw : wd_in T D cy z0 ad u M X s H locs) (k : Nat) {n : Nat} (hk : k < T.2.2.1) (hq : T.1 k = (3, n)) {i : Int32} {x : Int32} (hin : ix_ok i n) (hdg : decode cc pc = .ok (.bastore, 1)) (hM : M1 = mm_si M k i.toNatClampNeg (vp_nar .boolean x))
    (kk : ∀ (H : Heap) (locs : List Loc), wd_in T D cy z0 ad u M1 X s H locs → W p l e R s m args below meth c H locs cells slots Q (F0 m (pc + 1) ls rest)) : W p l e R s m args below meth c H locs cells slots Q (F0 m pc ls (.int x :: .int i :: .ref (ad k) :: rest)) := by
  refine va_zast hC.1 hC.2.1 hw.1 hw.2.1 hw.2.2.1 hw.2.2.2.1 k 2 (wd_az hk hq) rfl hin hdg (fun H1 locs1 hP hD hS => ?_)
  have he : wd_e T cy ad u (mm_si M k i.toNatClampNeg (vp_nar .boolean x)) k = .inl (cy 2, n, .inl (upd (M.1 k) i.toNatClampNeg (vp_nar .boolean x))) := by rw [wd_e, hq]; show _ = _; rw [← mm_si_k]; rfl
  rw [wd_set hk he mm_si_o rfl, ← hM] at hP hD
  exact kk H1 locs1 ⟨hw.1, hP, hD, hS, hw.2.2.2.2.1, hw.2.2.2.2.2⟩
theorem rn_i (hC : cx_C p s m args meth c cc own w nL ret) (hw : wd_in T D cy z0 ad u M X s H locs) (k : Nat) {n : Nat} (hk : k < T.2.2.1) (hq : T.1 k = (1, n)) {v : Int32} (hv : Int32.ofNat n = v) (hdg : decode cc pc = .ok (.arraylength, 1))
    (kk : W p l e R s m args below meth c H locs cells slots Q (F0 m (pc + 1) ls (.int v :: rest))) : W p l e R s m args below meth c H locs cells slots Q (F0 m pc ls (.ref (ad k) :: rest)) :=
  va_alen hC.1 hC.2.1 hw.1 hw.2.1 k 0 (wd_ai hk hq) (ty := .int) rfl hv hdg kk
theorem rn_l (hC : cx_C p s m args meth c cc own w nL ret) (hw : wd_in T D cy z0 ad u M X s H locs) (k : Nat) {n : Nat} (hk : k < T.2.2.1) (hq : T.1 k = (2, n)) {v : Int32} (hv : Int32.ofNat n = v) (hdg : decode cc pc = .ok (.arraylength, 1))
    (kk : W p l e R s m args below meth c H locs cells slots Q (F0 m (pc + 1) ls (.int v :: rest))) : W p l e R s m args below meth c H locs cells slots Q (F0 m pc ls (.ref (ad k) :: rest)) :=
  va_alen hC.1 hC.2.1 hw.1 hw.2.1 k 1 (wd_al hk hq) (ty := .long) rfl hv hdg kk
theorem rg_i8 (hC : cx_C p s m args meth c cc own w nL ret) (hw : wd_in T D cy z0 ad u M X s H locs) (hg : T.2.2.2 = true) {n : Nat} (hn : T.2.2.1 = n) {i : Int32} (hin : ix_ok i (6 * M.2.2)) (hdg : decode cc pc = .ok (.iaload, 1))
    (kk : W p l e R s m args below meth c H locs cells slots Q (F0 m (pc + 1) ls (.int (M.1 n i.toNatClampNeg) :: rest))) : W p l e R s m args below meth c H locs cells slots Q (F0 m pc ls (.int i :: .ref u.1 :: rest)) := by
  subst hn
  exact va_iald hC.1 hC.2.1 hw.1 hw.2.1 T.2.2.1 0 (wd_at8 hg) rfl hin hdg kk
theorem rg_l9 (hC : cx_C p s m args meth c cc own w nL ret) (hw : wd_in T D cy z0 ad u M X s H locs) (hg : T.2.2.2 = true) {n : Nat} (hn : T.2.2.1 + 1 = n) {i : Int32} (hin : ix_ok i (20 * M.2.2)) (hdg : decode cc pc = .ok (.laload, 1))
    (kk : W p l e R s m args below meth c H locs cells slots Q (F0 m (pc + 1) ls (.long (M.2.1 n i.toNatClampNeg) :: rest))) : W p l e R s m args below meth c H locs cells slots Q (F0 m pc ls (.int i :: .ref u.2 :: rest)) := by
  subst hn
  exact va_lald hC.1 hC.2.1 hw.1 hw.2.1 (T.2.2.1 + 1) 1 (wd_at9 hg) rfl hin hdg kk
theorem rg_n8 (hC : cx_C p s m args meth c cc own w nL ret) (hw : wd_in T D cy z0 ad u M X s H locs) (hg : T.2.2.2 = true) {v : Int32} (hv : Int32.ofNat (6 * M.2.2) = v) (hdg : decode cc pc = .ok (.arraylength, 1))
    (kk : W p l e R s m args below meth c H locs cells slots Q (F0 m (pc + 1) ls (.int v :: rest))) : W p l e R s m args below meth c H locs cells slots Q (F0 m pc ls (.ref u.1 :: rest)) :=
  va_alen hC.1 hC.2.1 hw.1 hw.2.1 T.2.2.1 0 (wd_at8 hg) (ty := .int) rfl hv hdg kk
theorem rg_n9 (hC : cx_C p s m args meth c cc own w nL ret) (hw : wd_in T D cy z0 ad u M X s H locs) (hg : T.2.2.2 = true) {v : Int32} (hv : Int32.ofNat (20 * M.2.2) = v) (hdg : decode cc pc = .ok (.arraylength, 1))
    (kk : W p l e R s m args below meth c H locs cells slots Q (F0 m (pc + 1) ls (.int v :: rest))) : W p l e R s m args below meth c H locs cells slots Q (F0 m pc ls (.ref u.2 :: rest)) :=
  va_alen hC.1 hC.2.1 hw.1 hw.2.1 (T.2.2.1 + 1) 1 (wd_at9 hg) (ty := .long) rfl hv hdg kk
theorem rg_s8 (hC : cx_C p s m args meth c cc own w nL ret) (hw : wd_in T D cy z0 ad u M X s H locs) (hg : T.2.2.2 = true) {n : Nat} (hn : T.2.2.1 = n) {i x : Int32} (hin : ix_ok i (6 * M.2.2)) (hdg : decode cc pc = .ok (.iastore, 1)) (hM : M1 = mm_si M n i.toNatClampNeg x)
    (kk : ∀ (H : Heap) (locs : List Loc), wd_in T D cy z0 ad u M1 X s H locs → W p l e R s m args below meth c H locs cells slots Q (F0 m (pc + 1) ls rest)) : W p l e R s m args below meth c H locs cells slots Q (F0 m pc ls (.int x :: .int i :: .ref u.1 :: rest)) := by
  subst hn
  refine va_iast hC.1 hC.2.1 hw.1 hw.2.1 hw.2.2.1 hw.2.2.2.1 T.2.2.1 0 (wd_at8 hg) rfl hin hdg (fun H1 locs1 hP hD hS => ?_)
  rw [wd_set8 hg, ← hM] at hP hD
  exact kk H1 locs1 ⟨hw.1, hP, hD, hS, hw.2.2.2.2.1, hw.2.2.2.2.2⟩
theorem rg_s9 (hC : cx_C p s m args meth c cc own w nL ret) (hw : wd_in T D cy z0 ad u M X s H locs) (hg : T.2.2.2 = true) {n : Nat} (hn : T.2.2.1 + 1 = n) {i : Int32} {x : Int64} (hin : ix_ok i (20 * M.2.2)) (hdg : decode cc pc = .ok (.lastore, 1)) (hM : M1 = mm_sl M n i.toNatClampNeg x)
    (kk : ∀ (H : Heap) (locs : List Loc), wd_in T D cy z0 ad u M1 X s H locs → W p l e R s m args below meth c H locs cells slots Q (F0 m (pc + 1) ls rest)) : W p l e R s m args below meth c H locs cells slots Q (F0 m pc ls (.long x :: .int i :: .ref u.2 :: rest)) := by
  subst hn
  refine va_last hC.1 hC.2.1 hw.1 hw.2.1 hw.2.2.1 hw.2.2.2.1 (T.2.2.1 + 1) 1 (wd_at9 hg) rfl hin hdg (fun H1 locs1 hP hD hS => ?_)
  rw [wd_set9 hg, ← hM] at hP hD
  exact kk H1 locs1 ⟨hw.1, hP, hD, hS, hw.2.2.2.2.1, hw.2.2.2.2.2⟩
end RUL
def cq_i (T : wd_T) (D : va_G) (cy : Nat → ClassId) (z0 : Nat) (ad : Nat → Nat) (u : Nat × Nat) (X : va_W) (r : Int32) (M1 : mm_M) : Array Value → State → Outcome → State → Prop := va_Qi (fun (x : Int32) (_ : Unit) => x = r) (fun (_ : Unit) t => ct_B T D cy z0 ad u M1 X t) (fun q => z0 ≤ q)
def aq_i (T : wd_T) (D : va_G) (cy : Nat → ClassId) (z0 : Nat) (ad : Nat → Nat) (X : va_W) (r : Int32) (M1 : mm_M) : Array Value → State → Outcome → State → Prop := va_Qi (fun (x : Int32) (_ : Nat × Nat) => x = r) (fun (v : Nat × Nat) t => ct_B T D cy z0 ad v M1 X t) (fun q => z0 ≤ q)
def ct_i (T : wd_T) (l : Launch) (y : MethodName) (wy : Cond) (fr lo : Nat) (D : va_G) (cy : Nat → ClassId) (z0 : Nat) (ad : Nat → Nat) (u : Nat × Nat) (M : mm_M) (X : va_W) (as : List Value) (r : Int32) (M1 : mm_M) : Prop := Met l y (uw_m wy) { frames := fr, cells := 0, slots := 0, locals := lo } (va_Pc as (ct_U T D cy z0 ad u M X)) (cq_i T D cy z0 ad u X r M1) 0 0 (fun q => z0 ≤ q)
def ca_i (T : wd_T) (l : Launch) (y : MethodName) (wy : Cond) (fr lo : Nat) (D : va_G) (cy : Nat → ClassId) (z0 : Nat) (ad : Nat → Nat) (u : Nat × Nat) (M : mm_M) (X : va_W) (as : List Value) (r : Int32) (M1 : mm_M) : Prop := Met l y (uw_m wy) { frames := fr, cells := 2 * (M1.2.2 - M.2.2), slots := 52 * (M1.2.2 - M.2.2), locals := lo } (va_Pc as (ct_U T D cy z0 ad u M X)) (aq_i T D cy z0 ad X r M1) (2 * (M1.2.2 - M.2.2)) (52 * (M1.2.2 - M.2.2)) (fun q => z0 ≤ q)
def cq_l (T : wd_T) (D : va_G) (cy : Nat → ClassId) (z0 : Nat) (ad : Nat → Nat) (u : Nat × Nat) (X : va_W) (r : Int64) (M1 : mm_M) : Array Value → State → Outcome → State → Prop := va_Ql (fun (x : Int64) (_ : Unit) => x = r) (fun (_ : Unit) t => ct_B T D cy z0 ad u M1 X t) (fun q => z0 ≤ q)
def aq_l (T : wd_T) (D : va_G) (cy : Nat → ClassId) (z0 : Nat) (ad : Nat → Nat) (X : va_W) (r : Int64) (M1 : mm_M) : Array Value → State → Outcome → State → Prop := va_Ql (fun (x : Int64) (_ : Nat × Nat) => x = r) (fun (v : Nat × Nat) t => ct_B T D cy z0 ad v M1 X t) (fun q => z0 ≤ q)
def ct_l (T : wd_T) (l : Launch) (y : MethodName) (wy : Cond) (fr lo : Nat) (D : va_G) (cy : Nat → ClassId) (z0 : Nat) (ad : Nat → Nat) (u : Nat × Nat) (M : mm_M) (X : va_W) (as : List Value) (r : Int64) (M1 : mm_M) : Prop := Met l y (uw_m wy) { frames := fr, cells := 0, slots := 0, locals := lo } (va_Pc as (ct_U T D cy z0 ad u M X)) (cq_l T D cy z0 ad u X r M1) 0 0 (fun q => z0 ≤ q)
def ca_l (T : wd_T) (l : Launch) (y : MethodName) (wy : Cond) (fr lo : Nat) (D : va_G) (cy : Nat → ClassId) (z0 : Nat) (ad : Nat → Nat) (u : Nat × Nat) (M : mm_M) (X : va_W) (as : List Value) (r : Int64) (M1 : mm_M) : Prop := Met l y (uw_m wy) { frames := fr, cells := 2 * (M1.2.2 - M.2.2), slots := 52 * (M1.2.2 - M.2.2), locals := lo } (va_Pc as (ct_U T D cy z0 ad u M X)) (aq_l T D cy z0 ad X r M1) (2 * (M1.2.2 - M.2.2)) (52 * (M1.2.2 - M.2.2)) (fun q => z0 ≤ q)
def cq_v (T : wd_T) (D : va_G) (cy : Nat → ClassId) (z0 : Nat) (ad : Nat → Nat) (u : Nat × Nat) (X : va_W) (M1 : mm_M) : Array Value → State → Outcome → State → Prop := va_Qv (fun (_ : Unit) => True) (fun (_ : Unit) t => ct_B T D cy z0 ad u M1 X t) (fun q => z0 ≤ q)
def aq_v (T : wd_T) (D : va_G) (cy : Nat → ClassId) (z0 : Nat) (ad : Nat → Nat) (X : va_W) (M1 : mm_M) : Array Value → State → Outcome → State → Prop := va_Qv (fun (_ : Nat × Nat) => True) (fun (v : Nat × Nat) t => ct_B T D cy z0 ad v M1 X t) (fun q => z0 ≤ q)
def ct_v (T : wd_T) (l : Launch) (y : MethodName) (wy : Cond) (fr lo : Nat) (D : va_G) (cy : Nat → ClassId) (z0 : Nat) (ad : Nat → Nat) (u : Nat × Nat) (M : mm_M) (X : va_W) (as : List Value) (M1 : mm_M) : Prop := Met l y (uw_m wy) { frames := fr, cells := 0, slots := 0, locals := lo } (va_Pc as (ct_U T D cy z0 ad u M X)) (cq_v T D cy z0 ad u X M1) 0 0 (fun q => z0 ≤ q)
def ca_v (T : wd_T) (l : Launch) (y : MethodName) (wy : Cond) (fr lo : Nat) (D : va_G) (cy : Nat → ClassId) (z0 : Nat) (ad : Nat → Nat) (u : Nat × Nat) (M : mm_M) (X : va_W) (as : List Value) (M1 : mm_M) : Prop := Met l y (uw_m wy) { frames := fr, cells := 2 * (M1.2.2 - M.2.2), slots := 52 * (M1.2.2 - M.2.2), locals := lo } (va_Pc as (ct_U T D cy z0 ad u M X)) (aq_v T D cy z0 ad X M1) (2 * (M1.2.2 - M.2.2)) (52 * (M1.2.2 - M.2.2)) (fun q => z0 ≤ q)
theorem ct_blind {T : wd_T} {D : va_G} {cy : Nat → ClassId} {z0 : Nat} {ad : Nat → Nat} {u : Nat × Nat} {M : mm_M} {X : va_W} {as : List Value} : FrameBlind (va_Pc as (ct_U T D cy z0 ad u M X)) := fun a U g mk q => by
  obtain ⟨q0, qK, qP, qD, qz, qn⟩ := q
  exact ⟨q0, va_K.moved (u := U) (U := U.calling g mk a) (Vm.Alike.refl U.vm) qK, qP, qD, qz, va_Nw.same (u := U) (U := U.calling g mk a) rfl rfl qn⟩
section CLL
variable {p : Program} {l : Launch} {e : Env} {R : Room} {s : State} {m : MethodId} {args : Array Value} {below : List Frame} {meth : Method} {c : Code} {H : Heap} {locs : List Loc} {cells slots : Nat} {Q : State → Prop}
variable {cc : ByteArray} {own : String} {w : Cond} {nL : Nat} {ret : Option FieldType} {pc : Nat} {ls : Array Slot} {rest st As : List Value}
variable {T : wd_T} {D : va_G} {cy : Nat → ClassId} {z0 : Nat} {ad : Nat → Nat} {u : Nat × Nat} {M M1 : mm_M} {X : va_W} {fr lo : Nat} {y : MethodName}
theorem ct_pre (hw : wd_in T D cy z0 ad u M X s H locs) {as : List Value} : ∀ U : State, U.heap = H → s.WarmedH U.vm → va_Pc as (ct_U T D cy z0 ad u M X) as.toArray U := fun U hU hW =>
  ⟨rfl, va_K.moved hW.alike hw.1, by rw [hU]; exact hw.2.1, hw.2.2.1, by rw [hU]; exact Nat.le_trans hw.2.2.2.2.1 hw.2.2.2.1.1, va_Nw.warmM hW hw.2.2.2.2.2⟩
theorem ct_Bof (hw : wd_in T D cy z0 ad u M X s H locs) {t : State} (ht : t.heap = H) : ct_B T D cy z0 ad u M X t := ⟨by rw [ht]; exact hw.2.1, hw.2.2.1⟩
/-- where a method begins -/
theorem ct_in {as : List Value} (h : va_Pc as (ct_U T D cy z0 ad u M X) args s) : args = as.toArray ∧ wd_in T D cy z0 ad u M X s s.heap [] := ⟨h.1, h.2.1, h.2.2.1, h.2.2.2.1, va_S.rf, h.2.2.2.2.1, h.2.2.2.2.2⟩
theorem clc_Vi (hC : cx_C p s m args meth c cc own w nL ret) (hw : wd_in T D cy z0 ad u M X s H locs) {bytes : ByteArray} {maxL : Nat} {rety : Option FieldType} {n i : Nat} {C : String} {F : u_T} {N ci k : Nat} {r : Int32} (hM : ct_i T l y (Cond.code y bytes maxL rety) fr lo D cy z0 ad u M X (.ref (ad k) :: As) r M1) (hd : hd_ok y C n) (hu : cw_V own i C y (Cond.code y bytes maxL rety)) (hk : k < T.2.2.1) (hq : T.1 k = (0, ci)) (hc : vwCl[ci]? = some (C, F, N)) (hls : ls.size = nL) (hn : As.length = n) (hroom : (rest.map fun v => v.category).sum ≤ 8) (hR : fr + 1 ≤ R.frames ∧ 8 + (maxL + 11) + lo ≤ R.locals) (hcs : cells ≤ R.cells ∧ slots ≤ R.slots) (hst : st = As.reverse ++ .ref (ad k) :: rest) (hdg : decode cc pc = .ok (.invokevirtual i, 3))
    (kk : ∀ (H : Heap) (locs : List Loc), wd_in T D cy z0 ad u M1 X s H locs → W p l e R s m args below meth c H locs cells slots Q (F0 m (pc + 3) ls (.int r :: rest))) : W p l e R s m args below meth c H locs cells slots Q (F0 m pc ls st) := by
  subst hst
  refine va_calli (va_runV (As := As) (rest := rest) hC.S hM (cwV n hC.2.2.2.2.1 (uw_gV hu.1 hu.2.1 hu.2.2.1 hu.2.2.2.1 hu.2.2.2.2) rfl rfl rfl hd hR) ⟨ct_blind, va_recv hw.1 hw.2.1 hc (wd_ob hk hq), ct_pre hw⟩ rfl hn hls rfl (lv_room hroom) hdg hcs) hw.2.2.2.1 (fun q _ h => h) (fun q h => h) (fun r1 x t H1 locs1 ht hvm hp hB hz hk hS => ?_)
  subst hp
  exact kk H1 locs1 ⟨hw.1, by rw [← ht]; exact hB.1, hB.2, hS, hw.2.2.2.2.1, hw.2.2.2.2.2⟩
theorem clc_Si (hC : cx_C p s m args meth c cc own w nL ret) (hw : wd_in T D cy z0 ad u M X s H locs) {bytes : ByteArray} {maxL : Nat} {rety : Option FieldType} {n i : Nat} {C : String} {r : Int32} (hM : ct_i T l y (Cond.code y bytes maxL rety) fr lo D cy z0 ad u M X As r M1) (hd : hd_ok y C n) (hu : cw_S own i y (Cond.code y bytes maxL rety)) (hls : ls.size = nL) (hn : As.length = n) (hroom : (rest.map fun v => v.category).sum ≤ 8) (hR : fr + 1 ≤ R.frames ∧ 8 + (maxL + 11) + lo ≤ R.locals) (hcs : cells ≤ R.cells ∧ slots ≤ R.slots) (hst : st = As.reverse ++ rest) (hdg : decode cc pc = .ok (.invokestatic i, 3))
    (kk : ∀ (H : Heap) (locs : List Loc), wd_in T D cy z0 ad u M1 X s H locs → W p l e R s m args below meth c H locs cells slots Q (F0 m (pc + 3) ls (.int r :: rest))) : W p l e R s m args below meth c H locs cells slots Q (F0 m pc ls st) := by
  subst hst
  refine va_calli (va_runS (As := As) (rest := rest) hC.S hM (va_cwS n hC.2.2.2.2.1 (uw_gS hu.1 hu.2.1 hu.2.2.1 hu.2.2.2) rfl rfl rfl hd.2 hR) ⟨ct_blind, ct_pre hw⟩ rfl hn hls rfl (lv_room hroom) hdg hcs) hw.2.2.2.1 (fun q _ h => h) (fun q h => h) (fun r1 x t H1 locs1 ht hvm hp hB hz hk hS => ?_)
  subst hp
  exact kk H1 locs1 ⟨hw.1, by rw [← ht]; exact hB.1, hB.2, hS, hw.2.2.2.2.1, hw.2.2.2.2.2⟩
theorem cla_Vi (hC : cx_C p s m args meth c cc own w nL ret) (hw : wd_in T D cy z0 ad u M X s H locs) {bytes : ByteArray} {maxL : Nat} {rety : Option FieldType} {n i : Nat} {C : String} {F : u_T} {N ci k : Nat} {r : Int32} (hM : ca_i T l y (Cond.code y bytes maxL rety) fr lo D cy z0 ad u M X (.ref (ad k) :: As) r M1) (hd : hd_ok y C n) (hu : cw_V own i C y (Cond.code y bytes maxL rety)) (hk : k < T.2.2.1) (hq : T.1 k = (0, ci)) (hc : vwCl[ci]? = some (C, F, N)) (hls : ls.size = nL) (hn : As.length = n) (hroom : (rest.map fun v => v.category).sum ≤ 8) (hR : fr + 1 ≤ R.frames ∧ 8 + (maxL + 11) + lo ≤ R.locals) (hcs : cells + 2 * (M1.2.2 - M.2.2) ≤ R.cells ∧ slots + 52 * (M1.2.2 - M.2.2) ≤ R.slots) (hst : st = As.reverse ++ .ref (ad k) :: rest) (hdg : decode cc pc = .ok (.invokevirtual i, 3))
    (kk : ∀ (v : Nat × Nat) (H : Heap) (locs : List Loc), wd_in T D cy z0 ad v M1 X s H locs → W p l e R s m args below meth c H locs (cells + 2 * (M1.2.2 - M.2.2)) (slots + 52 * (M1.2.2 - M.2.2)) Q (F0 m (pc + 3) ls (.int r :: rest))) : W p l e R s m args below meth c H locs cells slots Q (F0 m pc ls st) := by
  subst hst
  refine va_calli (va_runV (As := As) (rest := rest) hC.S hM (cwV n hC.2.2.2.2.1 (uw_gV hu.1 hu.2.1 hu.2.2.1 hu.2.2.2.1 hu.2.2.2.2) rfl rfl rfl hd hR) ⟨ct_blind, va_recv hw.1 hw.2.1 hc (wd_ob hk hq), ct_pre hw⟩ rfl hn hls rfl (lv_room hroom) hdg hcs) hw.2.2.2.1 (fun q _ h => h) (fun q h => h) (fun r1 x t H1 locs1 ht hvm hp hB hz hk hS => ?_)
  subst hp
  exact kk x H1 locs1 ⟨hw.1, by rw [← ht]; exact hB.1, hB.2, hS, hw.2.2.2.2.1, hw.2.2.2.2.2⟩
theorem cla_Si (hC : cx_C p s m args meth c cc own w nL ret) (hw : wd_in T D cy z0 ad u M X s H locs) {bytes : ByteArray} {maxL : Nat} {rety : Option FieldType} {n i : Nat} {C : String} {r : Int32} (hM : ca_i T l y (Cond.code y bytes maxL rety) fr lo D cy z0 ad u M X As r M1) (hd : hd_ok y C n) (hu : cw_S own i y (Cond.code y bytes maxL rety)) (hls : ls.size = nL) (hn : As.length = n) (hroom : (rest.map fun v => v.category).sum ≤ 8) (hR : fr + 1 ≤ R.frames ∧ 8 + (maxL + 11) + lo ≤ R.locals) (hcs : cells + 2 * (M1.2.2 - M.2.2) ≤ R.cells ∧ slots + 52 * (M1.2.2 - M.2.2) ≤ R.slots) (hst : st = As.reverse ++ rest) (hdg : decode cc pc = .ok (.invokestatic i, 3))
    (kk : ∀ (v : Nat × Nat) (H : Heap) (locs : List Loc), wd_in T D cy z0 ad v M1 X s H locs → W p l e R s m args below meth c H locs (cells + 2 * (M1.2.2 - M.2.2)) (slots + 52 * (M1.2.2 - M.2.2)) Q (F0 m (pc + 3) ls (.int r :: rest))) : W p l e R s m args below meth c H locs cells slots Q (F0 m pc ls st) := by
  subst hst
  refine va_calli (va_runS (As := As) (rest := rest) hC.S hM (va_cwS n hC.2.2.2.2.1 (uw_gS hu.1 hu.2.1 hu.2.2.1 hu.2.2.2) rfl rfl rfl hd.2 hR) ⟨ct_blind, ct_pre hw⟩ rfl hn hls rfl (lv_room hroom) hdg hcs) hw.2.2.2.1 (fun q _ h => h) (fun q h => h) (fun r1 x t H1 locs1 ht hvm hp hB hz hk hS => ?_)
  subst hp
  exact kk x H1 locs1 ⟨hw.1, by rw [← ht]; exact hB.1, hB.2, hS, hw.2.2.2.2.1, hw.2.2.2.2.2⟩
theorem clc_Vl (hC : cx_C p s m args meth c cc own w nL ret) (hw : wd_in T D cy z0 ad u M X s H locs) {bytes : ByteArray} {maxL : Nat} {rety : Option FieldType} {n i : Nat} {C : String} {F : u_T} {N ci k : Nat} {r : Int64} (hM : ct_l T l y (Cond.code y bytes maxL rety) fr lo D cy z0 ad u M X (.ref (ad k) :: As) r M1) (hd : hd_ok y C n) (hu : cw_V own i C y (Cond.code y bytes maxL rety)) (hk : k < T.2.2.1) (hq : T.1 k = (0, ci)) (hc : vwCl[ci]? = some (C, F, N)) (hls : ls.size = nL) (hn : As.length = n) (hroom : (rest.map fun v => v.category).sum ≤ 8) (hR : fr + 1 ≤ R.frames ∧ 8 + (maxL + 11) + lo ≤ R.locals) (hcs : cells ≤ R.cells ∧ slots ≤ R.slots) (hst : st = As.reverse ++ .ref (ad k) :: rest) (hdg : decode cc pc = .ok (.invokevirtual i, 3))
    (kk : ∀ (H : Heap) (locs : List Loc), wd_in T D cy z0 ad u M1 X s H locs → W p l e R s m args below meth c H locs cells slots Q (F0 m (pc + 3) ls (.long r :: rest))) : W p l e R s m args below meth c H locs cells slots Q (F0 m pc ls st) := by
  subst hst
  refine va_calll (va_runV (As := As) (rest := rest) hC.S hM (cwV n hC.2.2.2.2.1 (uw_gV hu.1 hu.2.1 hu.2.2.1 hu.2.2.2.1 hu.2.2.2.2) rfl rfl rfl hd hR) ⟨ct_blind, va_recv hw.1 hw.2.1 hc (wd_ob hk hq), ct_pre hw⟩ rfl hn hls rfl (lv_room hroom) hdg hcs) hw.2.2.2.1 (fun q _ h => h) (fun q h => h) (fun r1 x t H1 locs1 ht hvm hp hB hz hk hS => ?_)
  subst hp
  exact kk H1 locs1 ⟨hw.1, by rw [← ht]; exact hB.1, hB.2, hS, hw.2.2.2.2.1, hw.2.2.2.2.2⟩
theorem clc_Sl (hC : cx_C p s m args meth c cc own w nL ret) (hw : wd_in T D cy z0 ad u M X s H locs) {bytes : ByteArray} {maxL : Nat} {rety : Option FieldType} {n i : Nat} {C : String} {r : Int64} (hM : ct_l T l y (Cond.code y bytes maxL rety) fr lo D cy z0 ad u M X As r M1) (hd : hd_ok y C n) (hu : cw_S own i y (Cond.code y bytes maxL rety)) (hls : ls.size = nL) (hn : As.length = n) (hroom : (rest.map fun v => v.category).sum ≤ 8) (hR : fr + 1 ≤ R.frames ∧ 8 + (maxL + 11) + lo ≤ R.locals) (hcs : cells ≤ R.cells ∧ slots ≤ R.slots) (hst : st = As.reverse ++ rest) (hdg : decode cc pc = .ok (.invokestatic i, 3))
    (kk : ∀ (H : Heap) (locs : List Loc), wd_in T D cy z0 ad u M1 X s H locs → W p l e R s m args below meth c H locs cells slots Q (F0 m (pc + 3) ls (.long r :: rest))) : W p l e R s m args below meth c H locs cells slots Q (F0 m pc ls st) := by
  subst hst
  refine va_calll (va_runS (As := As) (rest := rest) hC.S hM (va_cwS n hC.2.2.2.2.1 (uw_gS hu.1 hu.2.1 hu.2.2.1 hu.2.2.2) rfl rfl rfl hd.2 hR) ⟨ct_blind, ct_pre hw⟩ rfl hn hls rfl (lv_room hroom) hdg hcs) hw.2.2.2.1 (fun q _ h => h) (fun q h => h) (fun r1 x t H1 locs1 ht hvm hp hB hz hk hS => ?_)
  subst hp
  exact kk H1 locs1 ⟨hw.1, by rw [← ht]; exact hB.1, hB.2, hS, hw.2.2.2.2.1, hw.2.2.2.2.2⟩
theorem cla_Vl (hC : cx_C p s m args meth c cc own w nL ret) (hw : wd_in T D cy z0 ad u M X s H locs) {bytes : ByteArray} {maxL : Nat} {rety : Option FieldType} {n i : Nat} {C : String} {F : u_T} {N ci k : Nat} {r : Int64} (hM : ca_l T l y (Cond.code y bytes maxL rety) fr lo D cy z0 ad u M X (.ref (ad k) :: As) r M1) (hd : hd_ok y C n) (hu : cw_V own i C y (Cond.code y bytes maxL rety)) (hk : k < T.2.2.1) (hq : T.1 k = (0, ci)) (hc : vwCl[ci]? = some (C, F, N)) (hls : ls.size = nL) (hn : As.length = n) (hroom : (rest.map fun v => v.category).sum ≤ 8) (hR : fr + 1 ≤ R.frames ∧ 8 + (maxL + 11) + lo ≤ R.locals) (hcs : cells + 2 * (M1.2.2 - M.2.2) ≤ R.cells ∧ slots + 52 * (M1.2.2 - M.2.2) ≤ R.slots) (hst : st = As.reverse ++ .ref (ad k) :: rest) (hdg : decode cc pc = .ok (.invokevirtual i, 3))
    (kk : ∀ (v : Nat × Nat) (H : Heap) (locs : List Loc), wd_in T D cy z0 ad v M1 X s H locs → W p l e R s m args below meth c H locs (cells + 2 * (M1.2.2 - M.2.2)) (slots + 52 * (M1.2.2 - M.2.2)) Q (F0 m (pc + 3) ls (.long r :: rest))) : W p l e R s m args below meth c H locs cells slots Q (F0 m pc ls st) := by
  subst hst
  refine va_calll (va_runV (As := As) (rest := rest) hC.S hM (cwV n hC.2.2.2.2.1 (uw_gV hu.1 hu.2.1 hu.2.2.1 hu.2.2.2.1 hu.2.2.2.2) rfl rfl rfl hd hR) ⟨ct_blind, va_recv hw.1 hw.2.1 hc (wd_ob hk hq), ct_pre hw⟩ rfl hn hls rfl (lv_room hroom) hdg hcs) hw.2.2.2.1 (fun q _ h => h) (fun q h => h) (fun r1 x t H1 locs1 ht hvm hp hB hz hk hS => ?_)
  subst hp
  exact kk x H1 locs1 ⟨hw.1, by rw [← ht]; exact hB.1, hB.2, hS, hw.2.2.2.2.1, hw.2.2.2.2.2⟩
theorem cla_Sl (hC : cx_C p s m args meth c cc own w nL ret) (hw : wd_in T D cy z0 ad u M X s H locs) {bytes : ByteArray} {maxL : Nat} {rety : Option FieldType} {n i : Nat} {C : String} {r : Int64} (hM : ca_l T l y (Cond.code y bytes maxL rety) fr lo D cy z0 ad u M X As r M1) (hd : hd_ok y C n) (hu : cw_S own i y (Cond.code y bytes maxL rety)) (hls : ls.size = nL) (hn : As.length = n) (hroom : (rest.map fun v => v.category).sum ≤ 8) (hR : fr + 1 ≤ R.frames ∧ 8 + (maxL + 11) + lo ≤ R.locals) (hcs : cells + 2 * (M1.2.2 - M.2.2) ≤ R.cells ∧ slots + 52 * (M1.2.2 - M.2.2) ≤ R.slots) (hst : st = As.reverse ++ rest) (hdg : decode cc pc = .ok (.invokestatic i, 3))
    (kk : ∀ (v : Nat × Nat) (H : Heap) (locs : List Loc), wd_in T D cy z0 ad v M1 X s H locs → W p l e R s m args below meth c H locs (cells + 2 * (M1.2.2 - M.2.2)) (slots + 52 * (M1.2.2 - M.2.2)) Q (F0 m (pc + 3) ls (.long r :: rest))) : W p l e R s m args below meth c H locs cells slots Q (F0 m pc ls st) := by
  subst hst
  refine va_calll (va_runS (As := As) (rest := rest) hC.S hM (va_cwS n hC.2.2.2.2.1 (uw_gS hu.1 hu.2.1 hu.2.2.1 hu.2.2.2) rfl rfl rfl hd.2 hR) ⟨ct_blind, ct_pre hw⟩ rfl hn hls rfl (lv_room hroom) hdg hcs) hw.2.2.2.1 (fun q _ h => h) (fun q h => h) (fun r1 x t H1 locs1 ht hvm hp hB hz hk hS => ?_)
  subst hp
  exact kk x H1 locs1 ⟨hw.1, by rw [← ht]; exact hB.1, hB.2, hS, hw.2.2.2.2.1, hw.2.2.2.2.2⟩
theorem clc_Vv (hC : cx_C p s m args meth c cc own w nL ret) (hw : wd_in T D cy z0 ad u M X s H locs) {bytes : ByteArray} {maxL : Nat} {rety : Option FieldType} {n i : Nat} {C : String} {F : u_T} {N ci k : Nat} (hM : ct_v T l y (Cond.code y bytes maxL rety) fr lo D cy z0 ad u M X (.ref (ad k) :: As) M1) (hd : hd_ok y C n) (hu : cw_V own i C y (Cond.code y bytes maxL rety)) (hk : k < T.2.2.1) (hq : T.1 k = (0, ci)) (hc : vwCl[ci]? = some (C, F, N)) (hls : ls.size = nL) (hn : As.length = n) (hroom : (rest.map fun v => v.category).sum ≤ 8) (hR : fr + 1 ≤ R.frames ∧ 8 + (maxL + 11) + lo ≤ R.locals) (hcs : cells ≤ R.cells ∧ slots ≤ R.slots) (hst : st = As.reverse ++ .ref (ad k) :: rest) (hdg : decode cc pc = .ok (.invokevirtual i, 3))
    (kk : ∀ (H : Heap) (locs : List Loc), wd_in T D cy z0 ad u M1 X s H locs → W p l e R s m args below meth c H locs cells slots Q (F0 m (pc + 3) ls (rest))) : W p l e R s m args below meth c H locs cells slots Q (F0 m pc ls st) := by
  subst hst
  refine va_callv (va_runV (As := As) (rest := rest) hC.S hM (cwV n hC.2.2.2.2.1 (uw_gV hu.1 hu.2.1 hu.2.2.1 hu.2.2.2.1 hu.2.2.2.2) rfl rfl rfl hd hR) ⟨ct_blind, va_recv hw.1 hw.2.1 hc (wd_ob hk hq), ct_pre hw⟩ rfl hn hls rfl (lv_room hroom) hdg hcs) hw.2.2.2.1 (fun q _ h => h) (fun q h => h) (fun x t H1 locs1 ht hvm hp hB hz hk hS => ?_)
  exact kk H1 locs1 ⟨hw.1, by rw [← ht]; exact hB.1, hB.2, hS, hw.2.2.2.2.1, hw.2.2.2.2.2⟩
theorem clc_Sv (hC : cx_C p s m args meth c cc own w nL ret) (hw : wd_in T D cy z0 ad u M X s H locs) {bytes : ByteArray} {maxL : Nat} {rety : Option FieldType} {n i : Nat} {C : String} (hM : ct_v T l y (Cond.code y bytes maxL rety) fr lo D cy z0 ad u M X As M1) (hd : hd_ok y C n) (hu : cw_S own i y (Cond.code y bytes maxL rety)) (hls : ls.size = nL) (hn : As.length = n) (hroom : (rest.map fun v => v.category).sum ≤ 8) (hR : fr + 1 ≤ R.frames ∧ 8 + (maxL + 11) + lo ≤ R.locals) (hcs : cells ≤ R.cells ∧ slots ≤ R.slots) (hst : st = As.reverse ++ rest) (hdg : decode cc pc = .ok (.invokestatic i, 3))
    (kk : ∀ (H : Heap) (locs : List Loc), wd_in T D cy z0 ad u M1 X s H locs → W p l e R s m args below meth c H locs cells slots Q (F0 m (pc + 3) ls (rest))) : W p l e R s m args below meth c H locs cells slots Q (F0 m pc ls st) := by
  subst hst
  refine va_callv (va_runS (As := As) (rest := rest) hC.S hM (va_cwS n hC.2.2.2.2.1 (uw_gS hu.1 hu.2.1 hu.2.2.1 hu.2.2.2) rfl rfl rfl hd.2 hR) ⟨ct_blind, ct_pre hw⟩ rfl hn hls rfl (lv_room hroom) hdg hcs) hw.2.2.2.1 (fun q _ h => h) (fun q h => h) (fun x t H1 locs1 ht hvm hp hB hz hk hS => ?_)
  exact kk H1 locs1 ⟨hw.1, by rw [← ht]; exact hB.1, hB.2, hS, hw.2.2.2.2.1, hw.2.2.2.2.2⟩
theorem cla_Vv (hC : cx_C p s m args meth c cc own w nL ret) (hw : wd_in T D cy z0 ad u M X s H locs) {bytes : ByteArray} {maxL : Nat} {rety : Option FieldType} {n i : Nat} {C : String} {F : u_T} {N ci k : Nat} (hM : ca_v T l y (Cond.code y bytes maxL rety) fr lo D cy z0 ad u M X (.ref (ad k) :: As) M1) (hd : hd_ok y C n) (hu : cw_V own i C y (Cond.code y bytes maxL rety)) (hk : k < T.2.2.1) (hq : T.1 k = (0, ci)) (hc : vwCl[ci]? = some (C, F, N)) (hls : ls.size = nL) (hn : As.length = n) (hroom : (rest.map fun v => v.category).sum ≤ 8) (hR : fr + 1 ≤ R.frames ∧ 8 + (maxL + 11) + lo ≤ R.locals) (hcs : cells + 2 * (M1.2.2 - M.2.2) ≤ R.cells ∧ slots + 52 * (M1.2.2 - M.2.2) ≤ R.slots) (hst : st = As.reverse ++ .ref (ad k) :: rest) (hdg : decode cc pc = .ok (.invokevirtual i, 3))
    (kk : ∀ (v : Nat × Nat) (H : Heap) (locs : List Loc), wd_in T D cy z0 ad v M1 X s H locs → W p l e R s m args below meth c H locs (cells + 2 * (M1.2.2 - M.2.2)) (slots + 52 * (M1.2.2 - M.2.2)) Q (F0 m (pc + 3) ls (rest))) : W p l e R s m args below meth c H locs cells slots Q (F0 m pc ls st) := by
  subst hst
  refine va_callv (va_runV (As := As) (rest := rest) hC.S hM (cwV n hC.2.2.2.2.1 (uw_gV hu.1 hu.2.1 hu.2.2.1 hu.2.2.2.1 hu.2.2.2.2) rfl rfl rfl hd hR) ⟨ct_blind, va_recv hw.1 hw.2.1 hc (wd_ob hk hq), ct_pre hw⟩ rfl hn hls rfl (lv_room hroom) hdg hcs) hw.2.2.2.1 (fun q _ h => h) (fun q h => h) (fun x t H1 locs1 ht hvm hp hB hz hk hS => ?_)
  exact kk x H1 locs1 ⟨hw.1, by rw [← ht]; exact hB.1, hB.2, hS, hw.2.2.2.2.1, hw.2.2.2.2.2⟩
theorem cla_Sv (hC : cx_C p s m args meth c cc own w nL ret) (hw : wd_in T D cy z0 ad u M X s H locs) {bytes : ByteArray} {maxL : Nat} {rety : Option FieldType} {n i : Nat} {C : String} (hM : ca_v T l y (Cond.code y bytes maxL rety) fr lo D cy z0 ad u M X As M1) (hd : hd_ok y C n) (hu : cw_S own i y (Cond.code y bytes maxL rety)) (hls : ls.size = nL) (hn : As.length = n) (hroom : (rest.map fun v => v.category).sum ≤ 8) (hR : fr + 1 ≤ R.frames ∧ 8 + (maxL + 11) + lo ≤ R.locals) (hcs : cells + 2 * (M1.2.2 - M.2.2) ≤ R.cells ∧ slots + 52 * (M1.2.2 - M.2.2) ≤ R.slots) (hst : st = As.reverse ++ rest) (hdg : decode cc pc = .ok (.invokestatic i, 3))
    (kk : ∀ (v : Nat × Nat) (H : Heap) (locs : List Loc), wd_in T D cy z0 ad v M1 X s H locs → W p l e R s m args below meth c H locs (cells + 2 * (M1.2.2 - M.2.2)) (slots + 52 * (M1.2.2 - M.2.2)) Q (F0 m (pc + 3) ls (rest))) : W p l e R s m args below meth c H locs cells slots Q (F0 m pc ls st) := by
  subst hst
  refine va_callv (va_runS (As := As) (rest := rest) hC.S hM (va_cwS n hC.2.2.2.2.1 (uw_gS hu.1 hu.2.1 hu.2.2.1 hu.2.2.2) rfl rfl rfl hd.2 hR) ⟨ct_blind, ct_pre hw⟩ rfl hn hls rfl (lv_room hroom) hdg hcs) hw.2.2.2.1 (fun q _ h => h) (fun q h => h) (fun x t H1 locs1 ht hvm hp hB hz hk hS => ?_)
  exact kk x H1 locs1 ⟨hw.1, by rw [← ht]; exact hB.1, hB.2, hS, hw.2.2.2.2.1, hw.2.2.2.2.2⟩
theorem cl_NS (hC : cx_C p s m args meth c cc "RhymedThen$Law" w nL ret) (hw : wd_in T D cy z0 ad u M X s H locs) {r : Int32} (hM : ct_i T l yX11_isBelow (Cond.code yX11_isBelow cX11_isBelow 2 (some .boolean)) fr lo D cy z0 ad u M X As r M1) (hls : ls.size = nL) (hn : As.length = 2) (hroom : (rest.map fun v => v.category).sum ≤ 8) (hR : fr + 1 ≤ R.frames ∧ 8 + (2 + 11) + lo ≤ R.locals) (hcs : cells ≤ R.cells ∧ slots ≤ R.slots) (hst : st = As.reverse ++ rest) (hdg : decode cc pc = .ok (.invokestatic 60, 3))
    (kk : ∀ (H : Heap) (locs : List Loc), wd_in T D cy z0 ad u M1 X s H locs → W p l e R s m args below meth c H locs cells slots Q (F0 m (pc + 3) ls (.int r :: rest))) : W p l e R s m args below meth c H locs cells slots Q (F0 m pc ls st) := by
  subst hst
  refine va_calli (va_runSN (As := As) (rest := rest) hC.S hM ⟨va_cnB 2 hC.2.2.2.2.1 (uw_gm wo_X11_isBelow) rfl rfl rfl hw.2.2.2.2.2 (hC.t wn_X11) ⟨by decide +kernel, by decide +kernel, by decide +kernel⟩ hR, hC.t wt_X11_isBelow, trivial⟩ ⟨ct_blind, ct_pre hw⟩ rfl hn hls rfl (lv_room hroom) hdg hcs) hw.2.2.2.1 (fun q _ h => h) (fun q h => h) (fun r1 x t H1 locs1 ht hvm hp hB hz hk hS => ?_)
  subst hp
  exact kk H1 locs1 ⟨hw.1, by rw [← ht]; exact hB.1, hB.2, hS, hw.2.2.2.2.1, hw.2.2.2.2.2⟩
theorem rtc_i {v : Int32} (hC : cx_C p s m args meth c cc own w nL (some .int)) (hw : wd_in T D cy z0 ad u M X s H locs) (hdg : decode cc pc = .ok (.ireturn, 1)) : W p l e R s m args below meth c H locs cells slots (MQ below (cq_i T D cy z0 ad u X v M) args s cells slots (fun q => z0 ≤ q)) (F0 m pc ls [.int v]) :=
  W.iret (v := v) hC.1 hC.2.1 hC.2.2.2.2.2.1 (fun t ht hW => ⟨⟨v, (), rfl, rfl, ct_Bof hw ht⟩, hw.2.2.2.1.F ht⟩) hw.2.2.2.1.2.2 hdg (hlocks := hC.2.2.2.2.2.2)
theorem rtc_z {v : Int32} (hC : cx_C p s m args meth c cc own w nL (some .boolean)) (hw : wd_in T D cy z0 ad u M X s H locs) (hn : v = 0 ∨ v = 1) (hdg : decode cc pc = .ok (.ireturn, 1)) : W p l e R s m args below meth c H locs cells slots (MQ below (cq_i T D cy z0 ad u X v M) args s cells slots (fun q => z0 ≤ q)) (F0 m pc ls [.int v]) :=
  W.zret (v := v) hC.1 hC.2.1 hC.2.2.2.2.2.1 (by rcases hn with rfl | rfl <;> rfl) (fun t ht hW => ⟨⟨v, (), rfl, rfl, ct_Bof hw ht⟩, hw.2.2.2.1.F ht⟩) hw.2.2.2.1.2.2 hdg (hlocks := hC.2.2.2.2.2.2)
theorem rta_i {v : Int32} (hC : cx_C p s m args meth c cc own w nL (some .int)) (hw : wd_in T D cy z0 ad u M X s H locs) (hdg : decode cc pc = .ok (.ireturn, 1)) : W p l e R s m args below meth c H locs cells slots (MQ below (aq_i T D cy z0 ad X v M) args s cells slots (fun q => z0 ≤ q)) (F0 m pc ls [.int v]) :=
  W.iret (v := v) hC.1 hC.2.1 hC.2.2.2.2.2.1 (fun t ht hW => ⟨⟨v, u, rfl, rfl, ct_Bof hw ht⟩, hw.2.2.2.1.F ht⟩) hw.2.2.2.1.2.2 hdg (hlocks := hC.2.2.2.2.2.2)
theorem rta_z {v : Int32} (hC : cx_C p s m args meth c cc own w nL (some .boolean)) (hw : wd_in T D cy z0 ad u M X s H locs) (hn : v = 0 ∨ v = 1) (hdg : decode cc pc = .ok (.ireturn, 1)) : W p l e R s m args below meth c H locs cells slots (MQ below (aq_i T D cy z0 ad X v M) args s cells slots (fun q => z0 ≤ q)) (F0 m pc ls [.int v]) :=
  W.zret (v := v) hC.1 hC.2.1 hC.2.2.2.2.2.1 (by rcases hn with rfl | rfl <;> rfl) (fun t ht hW => ⟨⟨v, u, rfl, rfl, ct_Bof hw ht⟩, hw.2.2.2.1.F ht⟩) hw.2.2.2.1.2.2 hdg (hlocks := hC.2.2.2.2.2.2)
theorem rtc_l {v : Int64} (hC : cx_C p s m args meth c cc own w nL (some .long)) (hw : wd_in T D cy z0 ad u M X s H locs) (hdg : decode cc pc = .ok (.lreturn, 1)) : W p l e R s m args below meth c H locs cells slots (MQ below (cq_l T D cy z0 ad u X v M) args s cells slots (fun q => z0 ≤ q)) (F0 m pc ls [.long v]) :=
  W.lret (v := v) hC.1 hC.2.1 hC.2.2.2.2.2.1 (fun t ht hW => ⟨⟨v, (), rfl, rfl, ct_Bof hw ht⟩, hw.2.2.2.1.F ht⟩) hw.2.2.2.1.2.2 hdg (hlocks := hC.2.2.2.2.2.2)
theorem rta_l {v : Int64} (hC : cx_C p s m args meth c cc own w nL (some .long)) (hw : wd_in T D cy z0 ad u M X s H locs) (hdg : decode cc pc = .ok (.lreturn, 1)) : W p l e R s m args below meth c H locs cells slots (MQ below (aq_l T D cy z0 ad X v M) args s cells slots (fun q => z0 ≤ q)) (F0 m pc ls [.long v]) :=
  W.lret (v := v) hC.1 hC.2.1 hC.2.2.2.2.2.1 (fun t ht hW => ⟨⟨v, u, rfl, rfl, ct_Bof hw ht⟩, hw.2.2.2.1.F ht⟩) hw.2.2.2.1.2.2 hdg (hlocks := hC.2.2.2.2.2.2)
theorem rtc_v (hC : cx_C p s m args meth c cc own w nL none) (hw : wd_in T D cy z0 ad u M X s H locs) (hdg : decode cc pc = .ok (.return_, 1)) : W p l e R s m args below meth c H locs cells slots (MQ below (cq_v T D cy z0 ad u X M) args s cells slots (fun q => z0 ≤ q)) (F0 m pc ls []) :=
  W.vret hC.1 hC.2.1 hC.2.2.2.2.2.1 (fun t ht hW => ⟨⟨(), rfl, trivial, ct_Bof hw ht⟩, hw.2.2.2.1.F ht⟩) hw.2.2.2.1.2.2 hdg (hlocks := hC.2.2.2.2.2.2)
theorem rta_v (hC : cx_C p s m args meth c cc own w nL none) (hw : wd_in T D cy z0 ad u M X s H locs) (hdg : decode cc pc = .ok (.return_, 1)) : W p l e R s m args below meth c H locs cells slots (MQ below (aq_v T D cy z0 ad X M) args s cells slots (fun q => z0 ≤ q)) (F0 m pc ls []) :=
  W.vret hC.1 hC.2.1 hC.2.2.2.2.2.1 (fun t ht hW => ⟨⟨u, rfl, trivial, ct_Bof hw ht⟩, hw.2.2.2.1.F ht⟩) hw.2.2.2.1.2.2 hdg (hlocks := hC.2.2.2.2.2.2)
theorem bgc_i {r : Int32} {as : List Value} {bytes : ByteArray} {maxL : Nat} {rety : Option FieldType} (hy : plainName y.cls = true)
    (body : ∀ (p : Program) (e : Env) (s : State) (m : MethodId) (below : List Frame) (meth : Method) (c : Code), cx_C p s m as.toArray meth c bytes y.cls (Cond.code y bytes maxL rety) maxL rety → wd_in T D cy z0 ad u M X s s.heap [] →
      W p l e { frames := fr, cells := 0, slots := 0, locals := lo } s m as.toArray below meth c s.heap [] 0 0 (MQ below (cq_i T D cy z0 ad u X r M1) as.toArray s 0 0 (fun q => z0 ≤ q)) (entryFrame m as.toArray maxL)) : ct_i T l y (Cond.code y bytes maxL rety) fr lo D cy z0 ad u M X as r M1 := by
  refine Met.ofW (cc := bytes) (maxL := maxL) (ret := rety) hy rfl ?_
  intro p e s m args below meth c s₁ B hml hv
  obtain ⟨rfl, hw⟩ := ct_in hv
  exact body p e s m below meth c ⟨B.exec, B.bytes, hml, findClass_of_methodNamed B.named, atoms_spec (ws := uw_m (Cond.code y bytes maxL rety)) B.pre, B.returns, B.notSynchronized⟩ hw
theorem bga_i {r : Int32} {as : List Value} {bytes : ByteArray} {maxL : Nat} {rety : Option FieldType} (hy : plainName y.cls = true)
    (body : ∀ (p : Program) (e : Env) (s : State) (m : MethodId) (below : List Frame) (meth : Method) (c : Code), cx_C p s m as.toArray meth c bytes y.cls (Cond.code y bytes maxL rety) maxL rety → wd_in T D cy z0 ad u M X s s.heap [] →
      W p l e { frames := fr, cells := (2 * (M1.2.2 - M.2.2)), slots := (52 * (M1.2.2 - M.2.2)), locals := lo } s m as.toArray below meth c s.heap [] 0 0 (MQ below (aq_i T D cy z0 ad X r M1) as.toArray s (2 * (M1.2.2 - M.2.2)) (52 * (M1.2.2 - M.2.2)) (fun q => z0 ≤ q)) (entryFrame m as.toArray maxL)) : ca_i T l y (Cond.code y bytes maxL rety) fr lo D cy z0 ad u M X as r M1 := by
  refine Met.ofW (cc := bytes) (maxL := maxL) (ret := rety) hy rfl ?_
  intro p e s m args below meth c s₁ B hml hv
  obtain ⟨rfl, hw⟩ := ct_in hv
  exact body p e s m below meth c ⟨B.exec, B.bytes, hml, findClass_of_methodNamed B.named, atoms_spec (ws := uw_m (Cond.code y bytes maxL rety)) B.pre, B.returns, B.notSynchronized⟩ hw
theorem bgc_l {r : Int64} {as : List Value} {bytes : ByteArray} {maxL : Nat} {rety : Option FieldType} (hy : plainName y.cls = true)
    (body : ∀ (p : Program) (e : Env) (s : State) (m : MethodId) (below : List Frame) (meth : Method) (c : Code), cx_C p s m as.toArray meth c bytes y.cls (Cond.code y bytes maxL rety) maxL rety → wd_in T D cy z0 ad u M X s s.heap [] →
      W p l e { frames := fr, cells := 0, slots := 0, locals := lo } s m as.toArray below meth c s.heap [] 0 0 (MQ below (cq_l T D cy z0 ad u X r M1) as.toArray s 0 0 (fun q => z0 ≤ q)) (entryFrame m as.toArray maxL)) : ct_l T l y (Cond.code y bytes maxL rety) fr lo D cy z0 ad u M X as r M1 := by
  refine Met.ofW (cc := bytes) (maxL := maxL) (ret := rety) hy rfl ?_
  intro p e s m args below meth c s₁ B hml hv
  obtain ⟨rfl, hw⟩ := ct_in hv
  exact body p e s m below meth c ⟨B.exec, B.bytes, hml, findClass_of_methodNamed B.named, atoms_spec (ws := uw_m (Cond.code y bytes maxL rety)) B.pre, B.returns, B.notSynchronized⟩ hw
theorem bga_l {r : Int64} {as : List Value} {bytes : ByteArray} {maxL : Nat} {rety : Option FieldType} (hy : plainName y.cls = true)
    (body : ∀ (p : Program) (e : Env) (s : State) (m : MethodId) (below : List Frame) (meth : Method) (c : Code), cx_C p s m as.toArray meth c bytes y.cls (Cond.code y bytes maxL rety) maxL rety → wd_in T D cy z0 ad u M X s s.heap [] →
      W p l e { frames := fr, cells := (2 * (M1.2.2 - M.2.2)), slots := (52 * (M1.2.2 - M.2.2)), locals := lo } s m as.toArray below meth c s.heap [] 0 0 (MQ below (aq_l T D cy z0 ad X r M1) as.toArray s (2 * (M1.2.2 - M.2.2)) (52 * (M1.2.2 - M.2.2)) (fun q => z0 ≤ q)) (entryFrame m as.toArray maxL)) : ca_l T l y (Cond.code y bytes maxL rety) fr lo D cy z0 ad u M X as r M1 := by
  refine Met.ofW (cc := bytes) (maxL := maxL) (ret := rety) hy rfl ?_
  intro p e s m args below meth c s₁ B hml hv
  obtain ⟨rfl, hw⟩ := ct_in hv
  exact body p e s m below meth c ⟨B.exec, B.bytes, hml, findClass_of_methodNamed B.named, atoms_spec (ws := uw_m (Cond.code y bytes maxL rety)) B.pre, B.returns, B.notSynchronized⟩ hw
theorem bgc_v {as : List Value} {bytes : ByteArray} {maxL : Nat} {rety : Option FieldType} (hy : plainName y.cls = true)
    (body : ∀ (p : Program) (e : Env) (s : State) (m : MethodId) (below : List Frame) (meth : Method) (c : Code), cx_C p s m as.toArray meth c bytes y.cls (Cond.code y bytes maxL rety) maxL rety → wd_in T D cy z0 ad u M X s s.heap [] →
      W p l e { frames := fr, cells := 0, slots := 0, locals := lo } s m as.toArray below meth c s.heap [] 0 0 (MQ below (cq_v T D cy z0 ad u X M1) as.toArray s 0 0 (fun q => z0 ≤ q)) (entryFrame m as.toArray maxL)) : ct_v T l y (Cond.code y bytes maxL rety) fr lo D cy z0 ad u M X as M1 := by
  refine Met.ofW (cc := bytes) (maxL := maxL) (ret := rety) hy rfl ?_
  intro p e s m args below meth c s₁ B hml hv
  obtain ⟨rfl, hw⟩ := ct_in hv
  exact body p e s m below meth c ⟨B.exec, B.bytes, hml, findClass_of_methodNamed B.named, atoms_spec (ws := uw_m (Cond.code y bytes maxL rety)) B.pre, B.returns, B.notSynchronized⟩ hw
theorem bga_v {as : List Value} {bytes : ByteArray} {maxL : Nat} {rety : Option FieldType} (hy : plainName y.cls = true)
    (body : ∀ (p : Program) (e : Env) (s : State) (m : MethodId) (below : List Frame) (meth : Method) (c : Code), cx_C p s m as.toArray meth c bytes y.cls (Cond.code y bytes maxL rety) maxL rety → wd_in T D cy z0 ad u M X s s.heap [] →
      W p l e { frames := fr, cells := (2 * (M1.2.2 - M.2.2)), slots := (52 * (M1.2.2 - M.2.2)), locals := lo } s m as.toArray below meth c s.heap [] 0 0 (MQ below (aq_v T D cy z0 ad X M1) as.toArray s (2 * (M1.2.2 - M.2.2)) (52 * (M1.2.2 - M.2.2)) (fun q => z0 ≤ q)) (entryFrame m as.toArray maxL)) : ca_v T l y (Cond.code y bytes maxL rety) fr lo D cy z0 ad u M X as M1 := by
  refine Met.ofW (cc := bytes) (maxL := maxL) (ret := rety) hy rfl ?_
  intro p e s m args below meth c s₁ B hml hv
  obtain ⟨rfl, hw⟩ := ct_in hv
  exact body p e s m below meth c ⟨B.exec, B.bytes, hml, findClass_of_methodNamed B.named, atoms_spec (ws := uw_m (Cond.code y bytes maxL rety)) B.pre, B.returns, B.notSynchronized⟩ hw
theorem en_t {as : List Value} {n : Nat} (h : (lg_sl as).length ≤ n) (k : ∀ ls : Array Slot, lv_has ls n (lv_args 0 as) → W p l e R s m args below meth c H locs cells slots Q (F0 m 0 ls [])) : W p l e R s m args below meth c H locs cells slots Q (entryFrame m as.toArray n) := by
  rw [lg_entry_eq]
  exact k _ (lv_entry as h)
end CLL
