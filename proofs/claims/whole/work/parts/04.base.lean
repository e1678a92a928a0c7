/-! THE BASE: a memory of ints and longs by places; the worlds that it stands for; the walk's rules over it -/
abbrev mm_M : Type := (Nat → Nat → Int32) × (Nat → Nat → Int64) × Nat
def mm_si (M : mm_M) (k j : Nat) (v : Int32) : mm_M := (fun a b => if a = k ∧ b = j then v else M.1 a b, M.2.1, M.2.2)
def mm_sl (M : mm_M) (k j : Nat) (v : Int64) : mm_M := (M.1, fun a b => if a = k ∧ b = j then v else M.2.1 a b, M.2.2)
def mm_ai (M : mm_M) (k : Nat) (f : Nat → Int32) : mm_M := (fun a b => if a = k then f b else M.1 a b, M.2.1, M.2.2)
/-- an index lies in a row -/
abbrev ix_ok (i : Int32) (n : Nat) : Prop := ¬ (i < 0 ∨ n ≤ i.toNatClampNeg)
/-- a value that gets a name -/
def sq_ {α β : Type} (x : α) (f : α → β) : β := f x
theorem sq_e {α β : Type} {x : α} {f : α → β} {y : β} (h : sq_ x f = y) : ∃ z, z = x ∧ f z = y := ⟨x, rfl, h⟩
def fu_ : Nat := 1048576
theorem ck_e {α : Type} {c : Prop} [Decidable c] {x : Option α} {y : α} (h : (if c then x else none) = some y) : c ∧ x = some y := by
  by_cases hc : c
  · rw [if_pos hc] at h; exact ⟨hc, h⟩
  · rw [if_neg hc] at h; cases h
theorem bd_e {α β : Type} {x : Option α} {f : α → Option β} {y : β} (h : x.bind f = some y) : ∃ z, x = some z ∧ f z = some y := by
  cases x with
  | none => cases h
  | some z => exact ⟨z, rfl, h⟩
/-! tables: the kind of each place, where references lead, how many places, whether two rows grow -/
abbrev wd_T : Type := (Nat → Nat × Nat) × (Nat → Nat → Nat) × Nat × Bool
def wd_fl (ci : Nat) : List Nat := match ci with
  | 0 => [0, 0, 0, 1, 1, 1, 1]
  | 1 => [0, 0, 0, 0, 0, 0, 0]
  | 2 => [1, 1, 0, 0, 1, 1, 1]
  | 3 => [1, 0]
  | 4 => [0, 0, 0, 0, 0, 0, 0, 0]
  | 5 => [1, 1, 1, 0, 0, 1, 0]
  | 6 => [0, 0, 1, 1, 1, 1, 0, 1, 1, 1]
  | 7 => [1, 0]
  | 8 => [1, 0, 0, 1, 0, 2, 3]
  | 9 => [1, 1, 0]
  | 10 => [1, 1, 1, 1, 1, 1, 1, 1, 1, 1, 1, 1, 1]
  | 11 => [0, 0, 1, 1, 0, 0, 0, 1, 0, 1, 1, 0, 1, 1, 1, 1, 1, 1, 1, 1, 1, 1, 1, 1, 0, 0, 0, 0, 0, 1, 1, 1, 1, 1, 1, 1, 1, 1, 1, 0, 1, 1, 0, 1, 1, 1, 1, 1, 1, 0, 0, 1, 1, 1, 1, 1, 1, 1]
  | _ => []
def wd_v (ad : Nat → Nat) (u : Nat × Nat) (rt : Nat → Nat → Nat) (M : mm_M) (k j t : Nat) : Value := match t with
  | 0 => .int (M.1 k j)
  | 1 => .ref (ad (rt k j))
  | 2 => .ref u.1
  | _ => .ref u.2
def wd_fs (ad : Nat → Nat) (u : Nat × Nat) (rt : Nat → Nat → Nat) (M : mm_M) (k : Nat) (ts : List Nat) : List Value := ts.mapIdx (fun j t => wd_v ad u rt M k j t)
def wd_q (cy : Nat → ClassId) (ad : Nat → Nat) (u : Nat × Nat) (rt : Nat → Nat → Nat) (M : mm_M) (k : Nat) (q : Nat × Nat) : va_E := match q.1 with
  | 0 => .inr (q.2, wd_fs ad u rt M k (wd_fl q.2))
  | 1 => .inl (cy 0, q.2, .inl (M.1 k))
  | 2 => .inl (cy 1, q.2, .inr (.inl (M.2.1 k)))
  | 3 => .inl (cy 2, q.2, .inl (M.1 k))
  | t + 4 => .inl (cy (t + 3), q.2, .inr (.inr (.inr (.inr (fun j => some (ad (rt k j)))))))
def wd_e (T : wd_T) (cy : Nat → ClassId) (ad : Nat → Nat) (u : Nat × Nat) (M : mm_M) (k : Nat) : va_E := wd_q cy ad u T.2.1 M k (T.1 k)
def wd_g (T : wd_T) (cy : Nat → ClassId) (u : Nat × Nat) (M : mm_M) : va_W := if T.2.2.2 = true then [(u.1, .inl (cy 0, 6 * M.2.2, .inl (M.1 T.2.2.1))), (u.2, .inl (cy 1, 20 * M.2.2, .inr (.inl (M.2.1 (T.2.2.1 + 1)))))] else []
def wd_r (T : wd_T) (cy : Nat → ClassId) (ad : Nat → Nat) (u : Nat × Nat) (M : mm_M) : va_W := (List.range T.2.2.1).map (fun k => (ad k, wd_e T cy ad u M k))
def wd_ws (T : wd_T) (cy : Nat → ClassId) (ad : Nat → Nat) (u : Nat × Nat) (M : mm_M) (X : va_W) : va_W := wd_r T cy ad u M ++ (wd_g T cy u M ++ X)
def wd_ty (cy : Nat → ClassId) : List (ClassId × FieldType) := [(cy 0, .int), (cy 1, .long), (cy 2, .boolean), (cy 3, .object "RhymedThen$Kept"), (cy 4, .object "RhymedThen$Law"), (cy 5, .object "RhymedThen$Sign")]
def wd_nw : Cond := .methodLinkNest "RhymedThen$Law" 60 yX11_isBelow "RhymedThen"
def wd_in (T : wd_T) (D : va_G) (cy : Nat → ClassId) (z0 : Nat) (ad : Nat → Nat) (u : Nat × Nat) (M : mm_M) (X : va_W) (s : State) (H : Heap) (locs : List Loc) : Prop :=
  va_K D vwCl (wd_ty cy) s ∧ va_P D vwCl (wd_ws T cy ad u M X) H ∧ va_D (fun q => z0 ≤ q) (wd_ws T cy ad u M X) ∧ va_S (fun q => z0 ≤ q) s.heap H locs ∧ z0 ≤ s.heap.size ∧ va_Nw wd_nw s
def ct_U (T : wd_T) (D : va_G) (cy : Nat → ClassId) (z0 : Nat) (ad : Nat → Nat) (u : Nat × Nat) (M : mm_M) (X : va_W) (U : State) : Prop :=
  va_K D vwCl (wd_ty cy) U ∧ va_P D vwCl (wd_ws T cy ad u M X) U.heap ∧ va_D (fun q => z0 ≤ q) (wd_ws T cy ad u M X) ∧ z0 ≤ U.heap.size ∧ va_Nw wd_nw U
def ct_B (T : wd_T) (D : va_G) (cy : Nat → ClassId) (z0 : Nat) (ad : Nat → Nat) (u : Nat × Nat) (M : mm_M) (X : va_W) (t : State) : Prop :=
  va_P D vwCl (wd_ws T cy ad u M X) t.heap ∧ va_D (fun q => z0 ≤ q) (wd_ws T cy ad u M X)
section WDA
variable {T : wd_T} {D : va_G} {cy : Nat → ClassId} {z0 : Nat} {ad : Nat → Nat} {u : Nat × Nat} {M M' : mm_M} {X : va_W} {k j : Nat}
theorem wd_rl : (wd_r T cy ad u M).length = T.2.2.1 := by simp [wd_r]
theorem wd_at (hk : k < T.2.2.1) : (wd_ws T cy ad u M X)[k]? = some (ad k, wd_e T cy ad u M k) := by
  unfold wd_ws
  rw [List.getElem?_append_left (by rw [wd_rl]; exact hk)]
  simp [wd_r, hk]
theorem wd_fs_at {rt : Nat → Nat → Nat} {ts : List Nat} {t : Nat} (h : ts[j]? = some t) : (wd_fs ad u rt M k ts)[j]? = some (wd_v ad u rt M k j t) := by
  simp [wd_fs, h]
theorem wd_ob {ci : Nat} (hk : k < T.2.2.1) (hq : T.1 k = (0, ci)) : (wd_ws T cy ad u M X)[k]? = some (ad k, .inr (ci, wd_fs ad u T.2.1 M k (wd_fl ci))) := by
  rw [wd_at hk, wd_e, hq]; rfl
theorem wd_q_eq {rt : Nat → Nat → Nat} (h1 : M'.1 k = M.1 k) (h2 : M'.2.1 k = M.2.1 k) (q : Nat × Nat) : wd_q cy ad u rt M' k q = wd_q cy ad u rt M k q := by
  have hv : ∀ j t, wd_v ad u rt M' k j t = wd_v ad u rt M k j t := fun j t => by
    unfold wd_v; rw [h1]
  have hf : ∀ ts, wd_fs ad u rt M' k ts = wd_fs ad u rt M k ts := fun ts => by
    unfold wd_fs; congr 1; funext j t; exact hv j t
  unfold wd_q
  rw [h1, h2, hf]
theorem wd_set (hk : k < T.2.2.1) {e' : va_E} (he : wd_e T cy ad u M' k = e') (ho : ∀ i, i ≠ k → M'.1 i = M.1 i ∧ M'.2.1 i = M.2.1 i) (hc : M'.2.2 = M.2.2) : (wd_ws T cy ad u M X).set k (ad k, e') = wd_ws T cy ad u M' X := by
  unfold wd_ws
  rw [List.set_append, if_pos (by rw [wd_rl]; exact hk)]
  have hg : wd_g T cy u M' = wd_g T cy u M := by
    unfold wd_g
    rw [hc, (ho T.2.2.1 (by omega)).1, (ho (T.2.2.1 + 1) (by omega)).2]
  rw [hg]
  congr 1
  apply List.ext_getElem?
  intro i
  rw [List.getElem?_set]
  by_cases hi : k = i
  · subst hi
    rw [if_pos rfl, if_pos (by rw [wd_rl]; exact hk)]
    simp [wd_r, hk, he]
  · rw [if_neg hi]
    by_cases h2 : i < T.2.2.1
    · have h3 := ho i (Ne.symm hi)
      simp only [wd_r, List.getElem?_map, List.getElem?_range h2, Option.map_some, wd_e]
      rw [wd_q_eq h3.1 h3.2]
    · rw [List.getElem?_eq_none (by rw [wd_rl]; omega), List.getElem?_eq_none (by rw [wd_rl]; omega)]
theorem mm_si_o {v : Int32} : ∀ i, i ≠ k → (mm_si M k j v).1 i = M.1 i ∧ (mm_si M k j v).2.1 i = M.2.1 i := fun i h => ⟨by funext b; simp [mm_si, h], rfl⟩
theorem mm_sl_o {v : Int64} : ∀ i, i ≠ k → (mm_sl M k j v).1 i = M.1 i ∧ (mm_sl M k j v).2.1 i = M.2.1 i := fun i h => ⟨rfl, by funext b; simp [mm_sl, h]⟩
theorem mm_ai_o {f : Nat → Int32} : ∀ i, i ≠ k → (mm_ai M k f).1 i = M.1 i ∧ (mm_ai M k f).2.1 i = M.2.1 i := fun i h => ⟨by funext b; simp [mm_ai, h], rfl⟩
theorem wd_gl (hg : T.2.2.2 = true) : (wd_g T cy u M).length = 2 := by simp [wd_g, hg]
theorem wd_at8 (hg : T.2.2.2 = true) : (wd_ws T cy ad u M X)[T.2.2.1]? = some (u.1, .inl (cy 0, 6 * M.2.2, .inl (M.1 T.2.2.1))) := by
  unfold wd_ws
  rw [List.getElem?_append_right (by rw [wd_rl]; exact Nat.le_refl _), wd_rl, Nat.sub_self]
  simp [wd_g, hg]
theorem wd_at9 (hg : T.2.2.2 = true) : (wd_ws T cy ad u M X)[T.2.2.1 + 1]? = some (u.2, .inl (cy 1, 20 * M.2.2, .inr (.inl (M.2.1 (T.2.2.1 + 1))))) := by
  unfold wd_ws
  rw [List.getElem?_append_right (by rw [wd_rl]; omega), wd_rl, Nat.add_sub_cancel_left]
  simp [wd_g, hg]
theorem wd_r_eq (h : ∀ i, i < T.2.2.1 → M'.1 i = M.1 i ∧ M'.2.1 i = M.2.1 i) : wd_r T cy ad u M' = wd_r T cy ad u M := by
  unfold wd_r
  apply List.map_congr_left
  intro i hi
  have h3 := h i (List.mem_range.mp hi)
  rw [wd_e, wd_e, wd_q_eq h3.1 h3.2]
theorem wd_set8 (hg : T.2.2.2 = true) (v : Int32) : (wd_ws T cy ad u M X).set T.2.2.1 (u.1, .inl (cy 0, 6 * M.2.2, .inl (upd (M.1 T.2.2.1) j v))) = wd_ws T cy ad u (mm_si M T.2.2.1 j v) X := by
  unfold wd_ws
  rw [List.set_append, if_neg (by rw [wd_rl]; omega), wd_rl, Nat.sub_self, wd_r_eq (M' := mm_si M T.2.2.1 j v) (M := M) (fun i hi => mm_si_o i (by omega))]
  congr 1
  unfold wd_g
  rw [if_pos hg, if_pos hg]
  have h1 : (mm_si M T.2.2.1 j v).1 T.2.2.1 = upd (M.1 T.2.2.1) j v := by funext b; simp [mm_si, upd]
  rw [h1]
  rfl
theorem wd_set9 (hg : T.2.2.2 = true) (v : Int64) : (wd_ws T cy ad u M X).set (T.2.2.1 + 1) (u.2, .inl (cy 1, 20 * M.2.2, .inr (.inl (vp_updL (M.2.1 (T.2.2.1 + 1)) j v)))) = wd_ws T cy ad u (mm_sl M (T.2.2.1 + 1) j v) X := by
  unfold wd_ws
  rw [List.set_append, if_neg (by rw [wd_rl]; omega), wd_rl, Nat.add_sub_cancel_left, wd_r_eq (M' := mm_sl M (T.2.2.1 + 1) j v) (M := M) (fun i hi => mm_sl_o i (by omega))]
  congr 1
  unfold wd_g
  rw [if_pos hg, if_pos hg]
  have h1 : (mm_sl M (T.2.2.1 + 1) j v).2.1 (T.2.2.1 + 1) = vp_updL (M.2.1 (T.2.2.1 + 1)) j v := by funext b; simp [mm_sl, vp_updL]
  rw [h1]
  rfl
end WDA
