theorem st_arr {cA : ClassId} {n : Nat} {f g : Nat → Value} (h : ∀ j, j < n → f j = g j) : arrV cA n f = arrV cA n g := by
  have e : (fun j : Fin n => f j) = fun j : Fin n => g j := funext (fun j => h j j.isLt)
  unfold arrV
  rw [e]
def st_L1 (cy : Nat → ClassId) (h0 : Nat) (a : Nat → Nat) : va_W := [((a 0), .inl (cy 0, 6, .inl (fun _ => 0))), ((a 1), .inl (cy 0, 6, .inl (fun _ => 0))), ((a 2), .inl (cy 0, 16, .inl (fun _ => 0))), ((a 3), .inl (cy 0, 16, .inl (fun _ => 0))), ((a 4), .inr (0, [.int 0, .int 0, .int 0, .ref (a 3), .ref (a 2), .ref (a 1), .ref (a 0)])), ((a 5), .inl (cy 0, 6, .inl (fun _ => 0))), ((a 6), .inl (cy 0, 6, .inl (fun _ => 0))), ((a 7), .inl (cy 0, 16, .inl (fun _ => 0))), ((a 8), .inl (cy 0, 16, .inl (fun _ => 0))), ((a 9), .inr (0, [.int 0, .int 0, .int 0, .ref (a 8), .ref (a 7), .ref (a 6), .ref (a 5)])), ((a 10), .inl (cy 0, 6, .inl (fun _ => 0))), ((a 11), .inl (cy 0, 6, .inl (fun _ => 0))), ((a 12), .inl (cy 0, 16, .inl (fun _ => 0))), ((a 13), .inl (cy 0, 16, .inl (fun _ => 0))), ((a 14), .inr (0, [.int 0, .int 0, .int 0, .ref (a 13), .ref (a 12), .ref (a 11), .ref (a 10)])), ((a 15), .inl (cy 0, 400, .inl (fun _ => 0))), ((a 16), .inl (cy 1, 20, .inr (.inl (fun _ => 0)))), ((a 17), .inl (cy 1, 600, .inr (.inl (fun _ => 0)))), ((a 18), .inl (cy 0, 600, .inl (fun _ => 0))), ((a 19), .inl (cy 3, 3, .inr (.inr (.inr (.inr (va_up (va_up (va_up (fun _ => none) 0 (some (a 14))) 1 (some (a 9))) 2 (some (a 4)))))))), ((a 20), .inl (cy 0, 16, .inl (fun _ => 0))), ((a 21), .inl (cy 0, 16, .inl (fun _ => 0))), ((a 22), .inl (cy 0, 16, .inl (fun _ => 0))), ((a 23), .inl (cy 0, 7, .inl (fun _ => 0))), ((a 24), .inl (cy 0, 3, .inl (fun _ => 0))), ((a 25), .inl (cy 0, 7, .inl (fun _ => 0))), ((a 26), .inl (cy 0, 7, .inl (fun _ => 0))), ((a 27), .inr (6, [.int 0, .int 0, .ref (a 26), .ref (a 25), .ref (a 24), .ref (a 23), .int 0, .ref (a 22), .ref (a 21), .ref (a 20)])), ((a 28), .inl (cy 1, 600, .inr (.inl (fun _ => 0)))), ((a 29), .inl (cy 1, 600, .inr (.inl (fun _ => 0)))), ((a 30), .inr (9, [.ref (a 29), .ref (a 28), .int 0])), ((a 31), .inr (4, [.int 0, .int 0, .int 0, .int 0, .int 0, .int 0, .int 0, .int 5])), ((a 32), .inr (4, [.int 0, .int 0, .int 0, .int 0, .int 0, .int 0, .int 0, .int 5])), ((a 33), .inr (4, [.int 0, .int 0, .int 0, .int 0, .int 0, .int 0, .int 0, .int 5])), ((a 34), .inr (4, [.int 0, .int 0, .int 0, .int 0, .int 0, .int 0, .int 0, .int 5])), ((a 35), .inr (4, [.int 0, .int 0, .int 0, .int 0, .int 0, .int 0, .int 0, .int 5])), ((a 36), .inr (4, [.int 0, .int 0, .int 0, .int 0, .int 0, .int 0, .int 0, .int 5])), ((a 37), .inr (4, [.int 0, .int 0, .int 0, .int 0, .int 0, .int 0, .int 0, .int 5])), ((a 38), .inr (4, [.int 0, .int 0, .int 0, .int 0, .int 0, .int 0, .int 0, .int 5])), ((a 39), .inr (4, [.int 0, .int 0, .int 0, .int 0, .int 0, .int 0, .int 0, .int 5])), ((a 40), .inr (4, [.int 0, .int 0, .int 0, .int 0, .int 0, .int 0, .int 0, .int 5])), ((a 41), .inr (4, [.int 0, .int 0, .int 0, .int 0, .int 0, .int 0, .int 0, .int 5])), ((a 42), .inr (4, [.int 0, .int 0, .int 0, .int 0, .int 0, .int 0, .int 0, .int 5])), ((a 43), .inr (4, [.int 0, .int 0, .int 0, .int 0, .int 0, .int 0, .int 0, .int 5])), ((a 44), .inr (4, [.int 0, .int 0, .int 0, .int 0, .int 0, .int 0, .int 0, .int 5])), ((a 45), .inr (4, [.int 0, .int 0, .int 0, .int 0, .int 0, .int 0, .int 0, .int 5])), ((a 46), .inr (4, [.int 0, .int 0, .int 0, .int 0, .int 0, .int 0, .int 0, .int 5])), ((a 47), .inr (4, [.int 0, .int 0, .int 0, .int 0, .int 0, .int 0, .int 0, .int 5])), ((a 48), .inl (cy 0, 600, .inl (fun _ => 0))), ((a 49), .inl (cy 5, 16, .inr (.inr (.inr (.inr (va_up (va_up (va_up (va_up (va_up (va_up (va_up (va_up (va_up (va_up (va_up (va_up (va_up (va_up (va_up (va_up (fun _ => none) 0 (some (a 47))) 1 (some (a 46))) 2 (some (a 45))) 3 (some (a 44))) 4 (some (a 43))) 5 (some (a 42))) 6 (some (a 41))) 7 (some (a 40))) 8 (some (a 39))) 9 (some (a 38))) 10 (some (a 37))) 11 (some (a 36))) 12 (some (a 35))) 13 (some (a 34))) 14 (some (a 33))) 15 (some (a 32)))))))), ((a 50), .inr (5, [.ref (a 66), .ref (a 55), .ref (a 49), .int 0, .int 0, .ref (a 48), .int 0])), ((a 51), .inl (cy 0, 6, .inl (fun _ => 0))), ((a 52), .inl (cy 1, 600, .inr (.inl (fun _ => 0)))), ((a 53), .inl (cy 0, 600, .inl (fun _ => 0))), ((a 54), .inl (cy 0, 6, .inl (fun _ => 0))), ((a 55), .inr (2, [.ref (a 66), .ref (a 54), .int 1, .int 0, .ref (a 53), .ref (a 52), .ref (a 51)])), ((a 56), .inr (1, [.int 0, .int 0, .int 0, .int 0, .int 0, .int 0, .int 0])), ((a 57), .inr (1, [.int 0, .int 0, .int 0, .int 0, .int 0, .int 0, .int 0])), ((a 58), .inr (1, [.int 0, .int 0, .int 0, .int 0, .int 0, .int 0, .int 0])), ((a 59), .inr (1, [.int 0, .int 0, .int 0, .int 0, .int 0, .int 0, .int 0])), ((a 60), .inr (1, [.int 0, .int 0, .int 0, .int 0, .int 0, .int 0, .int 0])), ((a 61), .inr (1, [.int 0, .int 0, .int 0, .int 0, .int 0, .int 0, .int 0])), ((a 62), .inl (cy 1, 640, .inr (.inl (fun _ => 0)))), ((a 63), .inl (cy 0, 192, .inl (fun _ => 0))), ((a 64), .inl (cy 0, 6, .inl (fun _ => 0))), ((a 65), .inl (cy 4, 6, .inr (.inr (.inr (.inr (va_up (va_up (va_up (va_up (va_up (va_up (fun _ => none) 0 (some (a 61))) 1 (some (a 60))) 2 (some (a 59))) 3 (some (a 58))) 4 (some (a 57))) 5 (some (a 56)))))))), ((a 66), .inr (8, [.ref (a 65), .int 0, .int 0, .ref (a 64), .int 1, .ref (a 63), .ref (a 62)])), ((a 67), .inl (cy 1, 24, .inr (.inl (fun _ => 0)))), ((a 68), .inr (3, [.ref (a 67), .int 0])), ((a 69), .inl (cy 0, 40, .inl (fun _ => 0))), ((a 70), .inr (7, [.ref (a 69), .int 0])), (h0, .inr (10, [.ref (a 70), .ref (a 68), .ref (a 66), .ref (a 55), .ref (a 50), .ref (a 31), .ref (a 30), .ref (a 27), .ref (a 19), .ref (a 18), .ref (a 17), .ref (a 16), .ref (a 15)]))]
def st_L2 (cy : Nat → ClassId) (h0 : Nat) (a : Nat → Nat) : va_W := [((a 0), .inl (cy 0, 18, .inl (fun _ => 0))), ((a 1), .inl (cy 0, 18, .inl (fun _ => 0))), ((a 2), .inl (cy 0, 48, .inl (fun _ => 0))), ((a 3), .inl (cy 0, 48, .inl (fun _ => 0))), ((a 4), .inl (cy 2, 48, .inl (fun _ => 0))), ((a 5), .inl (cy 0, 3, .inl (fun _ => 0))), ((a 6), .inl (cy 2, 3, .inl (fun _ => 0))), ((a 7), .inl (cy 0, 3, .inl (fun _ => 0))), ((a 8), .inl (cy 0, 7, .inl (fun _ => 0))), ((a 9), .inl (cy 0, 7, .inl (fun _ => 0))), ((a 10), .inl (cy 0, 7, .inl (fun _ => 0))), ((a 11), .inl (cy 0, 4, .inl (fun _ => 0))), ((a 12), .inl (cy 1, 600, .inr (.inl (fun _ => 0)))), ((a 13), .inl (cy 1, 600, .inr (.inl (fun _ => 0)))), ((a 14), .inl (cy 1, 600, .inr (.inl (fun _ => 0)))), ((a 15), .inl (cy 0, 600, .inl (fun _ => 0))), ((a 16), .inl (cy 2, 17, .inl (fun _ => 0))), ((a 17), .inl (cy 0, 17, .inl (fun _ => 0))), ((a 18), .inl (cy 0, 17, .inl (fun _ => 0))), ((a 19), .inl (cy 0, 17, .inl (fun _ => 0))), ((a 20), .inl (cy 0, 17, .inl (fun _ => 0))), ((a 21), .inl (cy 0, 17, .inl (fun _ => 0))), ((a 22), .inl (cy 0, 17, .inl (fun _ => 0))), ((a 23), .inl (cy 0, 17, .inl (fun _ => 0))), ((a 24), .inl (cy 0, 17, .inl (fun _ => 0))), ((a 25), .inl (cy 0, 6, .inl (fun _ => 0))), ((a 26), .inl (cy 0, 8, .inl (fun _ => 0))), ((a 27), .inl (cy 0, 2, .inl (fun _ => 0))), ((a 28), .inl (cy 0, 16, .inl (fun _ => 0))), ((a 29), .inl (cy 0, 6, .inl (fun _ => 0))), ((a 30), .inl (cy 0, 6, .inl (fun _ => 0))), ((a 31), .inl (cy 0, 6, .inl (fun _ => 0))), ((a 32), .inl (cy 0, 6, .inl (fun _ => 0))), ((a 33), .inl (cy 0, 6, .inl (fun _ => 0))), ((a 34), .inl (cy 0, 6, .inl (fun _ => 0))), ((a 35), .inl (cy 0, 6, .inl (fun _ => 0))), ((a 36), .inl (cy 0, 6, .inl (fun _ => 0))), ((a 37), .inl (cy 0, 20, .inl (fun _ => 0))), ((a 38), .inl (cy 0, 160, .inl (fun _ => 0))), ((a 39), .inl (cy 0, 6, .inl (fun _ => 0))), ((a 40), .inl (cy 0, 40, .inl (fun _ => 0))), ((a 41), .inl (cy 1, 64, .inr (.inl (fun _ => 0)))), (h0, .inr (11, [.int 0, .int 0, .ref (a 41), .ref (a 40), .int 0, .int 0, .int 0, .ref (a 39), .int 0, .ref (a 38), .ref (a 37), .int 0, .ref (a 36), .ref (a 35), .ref (a 34), .ref (a 33), .ref (a 32), .ref (a 31), .ref (a 30), .ref (a 29), .ref (a 28), .ref (a 27), .ref (a 26), .ref (a 25), .int 0, .int 0, .int (-1), .int (-1), .int 0, .ref (a 24), .ref (a 23), .ref (a 22), .ref (a 21), .ref (a 20), .ref (a 19), .ref (a 18), .ref (a 17), .ref (a 16), .ref (a 15), .int 0, .ref (a 14), .ref (a 13), .int 0, .ref (a 12), .ref (a 11), .ref (a 10), .ref (a 9), .ref (a 8), .ref (a 7), .int 0, .int 0, .ref (a 6), .ref (a 5), .ref (a 4), .ref (a 3), .ref (a 2), .ref (a 1), .ref (a 0)]))]
def st_p1 : List Nat := [71, 70, 69, 68, 67, 66, 65, 64, 61, 60, 59, 58, 57, 56, 55, 54, 53, 52, 51, 50, 49, 48, 47, 46, 45, 44, 43, 42, 41, 40, 39, 38, 37, 36, 35, 34, 33, 32, 31, 30, 29, 28, 27, 26, 25, 24, 23, 22, 21, 20, 19, 14, 13, 12, 11, 10, 9, 8, 7, 6, 5, 4, 3, 2, 1, 0, 18, 17, 16, 15]
def st_p2 : List Nat := [42, 41, 40, 39, 38, 37, 36, 35, 34, 33, 32, 31, 30, 29, 28, 27, 26, 25, 24, 23, 22, 21, 20, 19, 18, 17, 16, 15, 14, 13, 12, 11, 10, 9, 8, 7, 6, 5, 4, 3, 2, 1, 0]
def st_a1 (h0 : Nat) (a : Nat → Nat) (k : Nat) : Nat := ([h0, a 70, a 69, a 68, a 67, a 66, a 65, a 64, a 61, a 60, a 59, a 58, a 57, a 56, a 55, a 54, a 53, a 52, a 51, a 50, a 49, a 48, a 47, a 46, a 45, a 44, a 43, a 42, a 41, a 40, a 39, a 38, a 37, a 36, a 35, a 34, a 33, a 32, a 31, a 30, a 29, a 28, a 27, a 26, a 25, a 24, a 23, a 22, a 21, a 20, a 19, a 14, a 13, a 12, a 11, a 10, a 9, a 8, a 7, a 6, a 5, a 4, a 3, a 2, a 1, a 0, a 18, a 17, a 16, a 15] : List Nat).getD k 0
def st_a2 (h0 : Nat) (a : Nat → Nat) (k : Nat) : Nat := ([h0, a 41, a 40, a 39, a 38, a 37, a 36, a 35, a 34, a 33, a 32, a 31, a 30, a 29, a 28, a 27, a 26, a 25, a 24, a 23, a 22, a 21, a 20, a 19, a 18, a 17, a 16, a 15, a 14, a 13, a 12, a 11, a 10, a 9, a 8, a 7, a 6, a 5, a 4, a 3, a 2, a 1, a 0] : List Nat).getD k 0
def st_u1 (a : Nat → Nat) : Nat × Nat := (a 63, a 62)
def st_Mc : mm_M := (fun a b => if a = 5 ∧ b = 4 then 1 else if a = 14 ∧ b = 2 then 1 else if (22 ≤ a ∧ a ≤ 38) ∧ b = 7 then 5 else 0, fun _ _ => 0, 32)
def st_Mr : mm_M := (fun a b => if a = 0 ∧ (b = 26 ∨ b = 27) then -1 else 0, fun _ _ => 0, 0)
theorem st_q {cA : ClassId} {n : Nat} {f g : Nat → Option Nat} (h : ∀ j, j < n → f j = g j) : vp_cell cA (n, .inr (.inr (.inr (.inr f)))) = vp_cell cA (n, .inr (.inr (.inr (.inr g)))) := by
  rw [vp_cell_q, vp_cell_q]
  exact st_arr (fun j hj => by rw [h j hj])
theorem st_lt {P : Nat → Prop} {n : Nat} (h0 : ∀ k, k < n → P k) (h1 : P n) : ∀ k, k < n + 1 → P k := fun k hk => (Nat.lt_or_eq_of_le (Nat.le_of_lt_succ hk)).elim (h0 k) (fun e => e ▸ h1)
theorem st_c0 {D : va_G} {cy : Nat → ClassId} {h0 : Nat} {a : Nat → Nat} {H : Heap} (hP : ∀ q ∈ st_L1 cy h0 a, va_at D vwCl q H) : va_at D vwCl (st_a1 h0 a 0, wd_e cx_T cy (st_a1 h0 a) (st_u1 a) st_Mc 0) H := hP _ (List.mem_of_getElem? (i := 71) rfl)
theorem st_c1 {D : va_G} {cy : Nat → ClassId} {h0 : Nat} {a : Nat → Nat} {H : Heap} (hP : ∀ q ∈ st_L1 cy h0 a, va_at D vwCl q H) : va_at D vwCl (st_a1 h0 a 1, wd_e cx_T cy (st_a1 h0 a) (st_u1 a) st_Mc 1) H := hP _ (List.mem_of_getElem? (i := 70) rfl)
theorem st_c2 {D : va_G} {cy : Nat → ClassId} {h0 : Nat} {a : Nat → Nat} {H : Heap} (hP : ∀ q ∈ st_L1 cy h0 a, va_at D vwCl q H) : va_at D vwCl (st_a1 h0 a 2, wd_e cx_T cy (st_a1 h0 a) (st_u1 a) st_Mc 2) H := hP _ (List.mem_of_getElem? (i := 69) rfl)
theorem st_c3 {D : va_G} {cy : Nat → ClassId} {h0 : Nat} {a : Nat → Nat} {H : Heap} (hP : ∀ q ∈ st_L1 cy h0 a, va_at D vwCl q H) : va_at D vwCl (st_a1 h0 a 3, wd_e cx_T cy (st_a1 h0 a) (st_u1 a) st_Mc 3) H := hP _ (List.mem_of_getElem? (i := 68) rfl)
theorem st_c4 {D : va_G} {cy : Nat → ClassId} {h0 : Nat} {a : Nat → Nat} {H : Heap} (hP : ∀ q ∈ st_L1 cy h0 a, va_at D vwCl q H) : va_at D vwCl (st_a1 h0 a 4, wd_e cx_T cy (st_a1 h0 a) (st_u1 a) st_Mc 4) H := hP _ (List.mem_of_getElem? (i := 67) rfl)
theorem st_c5 {D : va_G} {cy : Nat → ClassId} {h0 : Nat} {a : Nat → Nat} {H : Heap} (hP : ∀ q ∈ st_L1 cy h0 a, va_at D vwCl q H) : va_at D vwCl (st_a1 h0 a 5, wd_e cx_T cy (st_a1 h0 a) (st_u1 a) st_Mc 5) H := hP _ (List.mem_of_getElem? (i := 66) rfl)
theorem st_c6 {D : va_G} {cy : Nat → ClassId} {h0 : Nat} {a : Nat → Nat} {H : Heap} (hP : ∀ q ∈ st_L1 cy h0 a, va_at D vwCl q H) : va_at D vwCl (st_a1 h0 a 6, wd_e cx_T cy (st_a1 h0 a) (st_u1 a) st_Mc 6) H := by
  have h := hP _ (List.mem_of_getElem? (i := 65) rfl)
  exact h.trans (congrArg some (st_q (fun j hj => by
    match j, hj with
    | 0, _ => rfl
    | 1, _ => rfl
    | 2, _ => rfl
    | 3, _ => rfl
    | 4, _ => rfl
    | 5, _ => rfl
    | q + 6, h => exact absurd h (by omega))))
theorem st_c7 {D : va_G} {cy : Nat → ClassId} {h0 : Nat} {a : Nat → Nat} {H : Heap} (hP : ∀ q ∈ st_L1 cy h0 a, va_at D vwCl q H) : va_at D vwCl (st_a1 h0 a 7, wd_e cx_T cy (st_a1 h0 a) (st_u1 a) st_Mc 7) H := hP _ (List.mem_of_getElem? (i := 64) rfl)
theorem st_c8 {D : va_G} {cy : Nat → ClassId} {h0 : Nat} {a : Nat → Nat} {H : Heap} (hP : ∀ q ∈ st_L1 cy h0 a, va_at D vwCl q H) : va_at D vwCl (st_a1 h0 a 8, wd_e cx_T cy (st_a1 h0 a) (st_u1 a) st_Mc 8) H := hP _ (List.mem_of_getElem? (i := 61) rfl)
theorem st_c9 {D : va_G} {cy : Nat → ClassId} {h0 : Nat} {a : Nat → Nat} {H : Heap} (hP : ∀ q ∈ st_L1 cy h0 a, va_at D vwCl q H) : va_at D vwCl (st_a1 h0 a 9, wd_e cx_T cy (st_a1 h0 a) (st_u1 a) st_Mc 9) H := hP _ (List.mem_of_getElem? (i := 60) rfl)
theorem st_c10 {D : va_G} {cy : Nat → ClassId} {h0 : Nat} {a : Nat → Nat} {H : Heap} (hP : ∀ q ∈ st_L1 cy h0 a, va_at D vwCl q H) : va_at D vwCl (st_a1 h0 a 10, wd_e cx_T cy (st_a1 h0 a) (st_u1 a) st_Mc 10) H := hP _ (List.mem_of_getElem? (i := 59) rfl)
theorem st_c11 {D : va_G} {cy : Nat → ClassId} {h0 : Nat} {a : Nat → Nat} {H : Heap} (hP : ∀ q ∈ st_L1 cy h0 a, va_at D vwCl q H) : va_at D vwCl (st_a1 h0 a 11, wd_e cx_T cy (st_a1 h0 a) (st_u1 a) st_Mc 11) H := hP _ (List.mem_of_getElem? (i := 58) rfl)
theorem st_c12 {D : va_G} {cy : Nat → ClassId} {h0 : Nat} {a : Nat → Nat} {H : Heap} (hP : ∀ q ∈ st_L1 cy h0 a, va_at D vwCl q H) : va_at D vwCl (st_a1 h0 a 12, wd_e cx_T cy (st_a1 h0 a) (st_u1 a) st_Mc 12) H := hP _ (List.mem_of_getElem? (i := 57) rfl)
theorem st_c13 {D : va_G} {cy : Nat → ClassId} {h0 : Nat} {a : Nat → Nat} {H : Heap} (hP : ∀ q ∈ st_L1 cy h0 a, va_at D vwCl q H) : va_at D vwCl (st_a1 h0 a 13, wd_e cx_T cy (st_a1 h0 a) (st_u1 a) st_Mc 13) H := hP _ (List.mem_of_getElem? (i := 56) rfl)
theorem st_c14 {D : va_G} {cy : Nat → ClassId} {h0 : Nat} {a : Nat → Nat} {H : Heap} (hP : ∀ q ∈ st_L1 cy h0 a, va_at D vwCl q H) : va_at D vwCl (st_a1 h0 a 14, wd_e cx_T cy (st_a1 h0 a) (st_u1 a) st_Mc 14) H := hP _ (List.mem_of_getElem? (i := 55) rfl)
theorem st_c15 {D : va_G} {cy : Nat → ClassId} {h0 : Nat} {a : Nat → Nat} {H : Heap} (hP : ∀ q ∈ st_L1 cy h0 a, va_at D vwCl q H) : va_at D vwCl (st_a1 h0 a 15, wd_e cx_T cy (st_a1 h0 a) (st_u1 a) st_Mc 15) H := hP _ (List.mem_of_getElem? (i := 54) rfl)
theorem st_c16 {D : va_G} {cy : Nat → ClassId} {h0 : Nat} {a : Nat → Nat} {H : Heap} (hP : ∀ q ∈ st_L1 cy h0 a, va_at D vwCl q H) : va_at D vwCl (st_a1 h0 a 16, wd_e cx_T cy (st_a1 h0 a) (st_u1 a) st_Mc 16) H := hP _ (List.mem_of_getElem? (i := 53) rfl)
theorem st_c17 {D : va_G} {cy : Nat → ClassId} {h0 : Nat} {a : Nat → Nat} {H : Heap} (hP : ∀ q ∈ st_L1 cy h0 a, va_at D vwCl q H) : va_at D vwCl (st_a1 h0 a 17, wd_e cx_T cy (st_a1 h0 a) (st_u1 a) st_Mc 17) H := hP _ (List.mem_of_getElem? (i := 52) rfl)
theorem st_c18 {D : va_G} {cy : Nat → ClassId} {h0 : Nat} {a : Nat → Nat} {H : Heap} (hP : ∀ q ∈ st_L1 cy h0 a, va_at D vwCl q H) : va_at D vwCl (st_a1 h0 a 18, wd_e cx_T cy (st_a1 h0 a) (st_u1 a) st_Mc 18) H := hP _ (List.mem_of_getElem? (i := 51) rfl)
theorem st_c19 {D : va_G} {cy : Nat → ClassId} {h0 : Nat} {a : Nat → Nat} {H : Heap} (hP : ∀ q ∈ st_L1 cy h0 a, va_at D vwCl q H) : va_at D vwCl (st_a1 h0 a 19, wd_e cx_T cy (st_a1 h0 a) (st_u1 a) st_Mc 19) H := hP _ (List.mem_of_getElem? (i := 50) rfl)
theorem st_c20 {D : va_G} {cy : Nat → ClassId} {h0 : Nat} {a : Nat → Nat} {H : Heap} (hP : ∀ q ∈ st_L1 cy h0 a, va_at D vwCl q H) : va_at D vwCl (st_a1 h0 a 20, wd_e cx_T cy (st_a1 h0 a) (st_u1 a) st_Mc 20) H := by
  have h := hP _ (List.mem_of_getElem? (i := 49) rfl)
  exact h.trans (congrArg some (st_q (fun j hj => by
    match j, hj with
    | 0, _ => rfl
    | 1, _ => rfl
    | 2, _ => rfl
    | 3, _ => rfl
    | 4, _ => rfl
    | 5, _ => rfl
    | 6, _ => rfl
    | 7, _ => rfl
    | 8, _ => rfl
    | 9, _ => rfl
    | 10, _ => rfl
    | 11, _ => rfl
    | 12, _ => rfl
    | 13, _ => rfl
    | 14, _ => rfl
    | 15, _ => rfl
    | q + 16, h => exact absurd h (by omega))))
theorem st_c21 {D : va_G} {cy : Nat → ClassId} {h0 : Nat} {a : Nat → Nat} {H : Heap} (hP : ∀ q ∈ st_L1 cy h0 a, va_at D vwCl q H) : va_at D vwCl (st_a1 h0 a 21, wd_e cx_T cy (st_a1 h0 a) (st_u1 a) st_Mc 21) H := hP _ (List.mem_of_getElem? (i := 48) rfl)
theorem st_c22 {D : va_G} {cy : Nat → ClassId} {h0 : Nat} {a : Nat → Nat} {H : Heap} (hP : ∀ q ∈ st_L1 cy h0 a, va_at D vwCl q H) : va_at D vwCl (st_a1 h0 a 22, wd_e cx_T cy (st_a1 h0 a) (st_u1 a) st_Mc 22) H := hP _ (List.mem_of_getElem? (i := 47) rfl)
theorem st_c23 {D : va_G} {cy : Nat → ClassId} {h0 : Nat} {a : Nat → Nat} {H : Heap} (hP : ∀ q ∈ st_L1 cy h0 a, va_at D vwCl q H) : va_at D vwCl (st_a1 h0 a 23, wd_e cx_T cy (st_a1 h0 a) (st_u1 a) st_Mc 23) H := hP _ (List.mem_of_getElem? (i := 46) rfl)
theorem st_c24 {D : va_G} {cy : Nat → ClassId} {h0 : Nat} {a : Nat → Nat} {H : Heap} (hP : ∀ q ∈ st_L1 cy h0 a, va_at D vwCl q H) : va_at D vwCl (st_a1 h0 a 24, wd_e cx_T cy (st_a1 h0 a) (st_u1 a) st_Mc 24) H := hP _ (List.mem_of_getElem? (i := 45) rfl)
theorem st_c25 {D : va_G} {cy : Nat → ClassId} {h0 : Nat} {a : Nat → Nat} {H : Heap} (hP : ∀ q ∈ st_L1 cy h0 a, va_at D vwCl q H) : va_at D vwCl (st_a1 h0 a 25, wd_e cx_T cy (st_a1 h0 a) (st_u1 a) st_Mc 25) H := hP _ (List.mem_of_getElem? (i := 44) rfl)
theorem st_c26 {D : va_G} {cy : Nat → ClassId} {h0 : Nat} {a : Nat → Nat} {H : Heap} (hP : ∀ q ∈ st_L1 cy h0 a, va_at D vwCl q H) : va_at D vwCl (st_a1 h0 a 26, wd_e cx_T cy (st_a1 h0 a) (st_u1 a) st_Mc 26) H := hP _ (List.mem_of_getElem? (i := 43) rfl)
theorem st_c27 {D : va_G} {cy : Nat → ClassId} {h0 : Nat} {a : Nat → Nat} {H : Heap} (hP : ∀ q ∈ st_L1 cy h0 a, va_at D vwCl q H) : va_at D vwCl (st_a1 h0 a 27, wd_e cx_T cy (st_a1 h0 a) (st_u1 a) st_Mc 27) H := hP _ (List.mem_of_getElem? (i := 42) rfl)
theorem st_c28 {D : va_G} {cy : Nat → ClassId} {h0 : Nat} {a : Nat → Nat} {H : Heap} (hP : ∀ q ∈ st_L1 cy h0 a, va_at D vwCl q H) : va_at D vwCl (st_a1 h0 a 28, wd_e cx_T cy (st_a1 h0 a) (st_u1 a) st_Mc 28) H := hP _ (List.mem_of_getElem? (i := 41) rfl)
theorem st_c29 {D : va_G} {cy : Nat → ClassId} {h0 : Nat} {a : Nat → Nat} {H : Heap} (hP : ∀ q ∈ st_L1 cy h0 a, va_at D vwCl q H) : va_at D vwCl (st_a1 h0 a 29, wd_e cx_T cy (st_a1 h0 a) (st_u1 a) st_Mc 29) H := hP _ (List.mem_of_getElem? (i := 40) rfl)
theorem st_c30 {D : va_G} {cy : Nat → ClassId} {h0 : Nat} {a : Nat → Nat} {H : Heap} (hP : ∀ q ∈ st_L1 cy h0 a, va_at D vwCl q H) : va_at D vwCl (st_a1 h0 a 30, wd_e cx_T cy (st_a1 h0 a) (st_u1 a) st_Mc 30) H := hP _ (List.mem_of_getElem? (i := 39) rfl)
theorem st_c31 {D : va_G} {cy : Nat → ClassId} {h0 : Nat} {a : Nat → Nat} {H : Heap} (hP : ∀ q ∈ st_L1 cy h0 a, va_at D vwCl q H) : va_at D vwCl (st_a1 h0 a 31, wd_e cx_T cy (st_a1 h0 a) (st_u1 a) st_Mc 31) H := hP _ (List.mem_of_getElem? (i := 38) rfl)
theorem st_c32 {D : va_G} {cy : Nat → ClassId} {h0 : Nat} {a : Nat → Nat} {H : Heap} (hP : ∀ q ∈ st_L1 cy h0 a, va_at D vwCl q H) : va_at D vwCl (st_a1 h0 a 32, wd_e cx_T cy (st_a1 h0 a) (st_u1 a) st_Mc 32) H := hP _ (List.mem_of_getElem? (i := 37) rfl)
theorem st_c33 {D : va_G} {cy : Nat → ClassId} {h0 : Nat} {a : Nat → Nat} {H : Heap} (hP : ∀ q ∈ st_L1 cy h0 a, va_at D vwCl q H) : va_at D vwCl (st_a1 h0 a 33, wd_e cx_T cy (st_a1 h0 a) (st_u1 a) st_Mc 33) H := hP _ (List.mem_of_getElem? (i := 36) rfl)
theorem st_c34 {D : va_G} {cy : Nat → ClassId} {h0 : Nat} {a : Nat → Nat} {H : Heap} (hP : ∀ q ∈ st_L1 cy h0 a, va_at D vwCl q H) : va_at D vwCl (st_a1 h0 a 34, wd_e cx_T cy (st_a1 h0 a) (st_u1 a) st_Mc 34) H := hP _ (List.mem_of_getElem? (i := 35) rfl)
theorem st_c35 {D : va_G} {cy : Nat → ClassId} {h0 : Nat} {a : Nat → Nat} {H : Heap} (hP : ∀ q ∈ st_L1 cy h0 a, va_at D vwCl q H) : va_at D vwCl (st_a1 h0 a 35, wd_e cx_T cy (st_a1 h0 a) (st_u1 a) st_Mc 35) H := hP _ (List.mem_of_getElem? (i := 34) rfl)
theorem st_c36 {D : va_G} {cy : Nat → ClassId} {h0 : Nat} {a : Nat → Nat} {H : Heap} (hP : ∀ q ∈ st_L1 cy h0 a, va_at D vwCl q H) : va_at D vwCl (st_a1 h0 a 36, wd_e cx_T cy (st_a1 h0 a) (st_u1 a) st_Mc 36) H := hP _ (List.mem_of_getElem? (i := 33) rfl)
theorem st_c37 {D : va_G} {cy : Nat → ClassId} {h0 : Nat} {a : Nat → Nat} {H : Heap} (hP : ∀ q ∈ st_L1 cy h0 a, va_at D vwCl q H) : va_at D vwCl (st_a1 h0 a 37, wd_e cx_T cy (st_a1 h0 a) (st_u1 a) st_Mc 37) H := hP _ (List.mem_of_getElem? (i := 32) rfl)
theorem st_c38 {D : va_G} {cy : Nat → ClassId} {h0 : Nat} {a : Nat → Nat} {H : Heap} (hP : ∀ q ∈ st_L1 cy h0 a, va_at D vwCl q H) : va_at D vwCl (st_a1 h0 a 38, wd_e cx_T cy (st_a1 h0 a) (st_u1 a) st_Mc 38) H := hP _ (List.mem_of_getElem? (i := 31) rfl)
theorem st_c39 {D : va_G} {cy : Nat → ClassId} {h0 : Nat} {a : Nat → Nat} {H : Heap} (hP : ∀ q ∈ st_L1 cy h0 a, va_at D vwCl q H) : va_at D vwCl (st_a1 h0 a 39, wd_e cx_T cy (st_a1 h0 a) (st_u1 a) st_Mc 39) H := hP _ (List.mem_of_getElem? (i := 30) rfl)
theorem st_c40 {D : va_G} {cy : Nat → ClassId} {h0 : Nat} {a : Nat → Nat} {H : Heap} (hP : ∀ q ∈ st_L1 cy h0 a, va_at D vwCl q H) : va_at D vwCl (st_a1 h0 a 40, wd_e cx_T cy (st_a1 h0 a) (st_u1 a) st_Mc 40) H := hP _ (List.mem_of_getElem? (i := 29) rfl)
theorem st_c41 {D : va_G} {cy : Nat → ClassId} {h0 : Nat} {a : Nat → Nat} {H : Heap} (hP : ∀ q ∈ st_L1 cy h0 a, va_at D vwCl q H) : va_at D vwCl (st_a1 h0 a 41, wd_e cx_T cy (st_a1 h0 a) (st_u1 a) st_Mc 41) H := hP _ (List.mem_of_getElem? (i := 28) rfl)
theorem st_c42 {D : va_G} {cy : Nat → ClassId} {h0 : Nat} {a : Nat → Nat} {H : Heap} (hP : ∀ q ∈ st_L1 cy h0 a, va_at D vwCl q H) : va_at D vwCl (st_a1 h0 a 42, wd_e cx_T cy (st_a1 h0 a) (st_u1 a) st_Mc 42) H := hP _ (List.mem_of_getElem? (i := 27) rfl)
theorem st_c43 {D : va_G} {cy : Nat → ClassId} {h0 : Nat} {a : Nat → Nat} {H : Heap} (hP : ∀ q ∈ st_L1 cy h0 a, va_at D vwCl q H) : va_at D vwCl (st_a1 h0 a 43, wd_e cx_T cy (st_a1 h0 a) (st_u1 a) st_Mc 43) H := hP _ (List.mem_of_getElem? (i := 26) rfl)
theorem st_c44 {D : va_G} {cy : Nat → ClassId} {h0 : Nat} {a : Nat → Nat} {H : Heap} (hP : ∀ q ∈ st_L1 cy h0 a, va_at D vwCl q H) : va_at D vwCl (st_a1 h0 a 44, wd_e cx_T cy (st_a1 h0 a) (st_u1 a) st_Mc 44) H := hP _ (List.mem_of_getElem? (i := 25) rfl)
theorem st_c45 {D : va_G} {cy : Nat → ClassId} {h0 : Nat} {a : Nat → Nat} {H : Heap} (hP : ∀ q ∈ st_L1 cy h0 a, va_at D vwCl q H) : va_at D vwCl (st_a1 h0 a 45, wd_e cx_T cy (st_a1 h0 a) (st_u1 a) st_Mc 45) H := hP _ (List.mem_of_getElem? (i := 24) rfl)
theorem st_c46 {D : va_G} {cy : Nat → ClassId} {h0 : Nat} {a : Nat → Nat} {H : Heap} (hP : ∀ q ∈ st_L1 cy h0 a, va_at D vwCl q H) : va_at D vwCl (st_a1 h0 a 46, wd_e cx_T cy (st_a1 h0 a) (st_u1 a) st_Mc 46) H := hP _ (List.mem_of_getElem? (i := 23) rfl)
theorem st_c47 {D : va_G} {cy : Nat → ClassId} {h0 : Nat} {a : Nat → Nat} {H : Heap} (hP : ∀ q ∈ st_L1 cy h0 a, va_at D vwCl q H) : va_at D vwCl (st_a1 h0 a 47, wd_e cx_T cy (st_a1 h0 a) (st_u1 a) st_Mc 47) H := hP _ (List.mem_of_getElem? (i := 22) rfl)
theorem st_c48 {D : va_G} {cy : Nat → ClassId} {h0 : Nat} {a : Nat → Nat} {H : Heap} (hP : ∀ q ∈ st_L1 cy h0 a, va_at D vwCl q H) : va_at D vwCl (st_a1 h0 a 48, wd_e cx_T cy (st_a1 h0 a) (st_u1 a) st_Mc 48) H := hP _ (List.mem_of_getElem? (i := 21) rfl)
theorem st_c49 {D : va_G} {cy : Nat → ClassId} {h0 : Nat} {a : Nat → Nat} {H : Heap} (hP : ∀ q ∈ st_L1 cy h0 a, va_at D vwCl q H) : va_at D vwCl (st_a1 h0 a 49, wd_e cx_T cy (st_a1 h0 a) (st_u1 a) st_Mc 49) H := hP _ (List.mem_of_getElem? (i := 20) rfl)
theorem st_c50 {D : va_G} {cy : Nat → ClassId} {h0 : Nat} {a : Nat → Nat} {H : Heap} (hP : ∀ q ∈ st_L1 cy h0 a, va_at D vwCl q H) : va_at D vwCl (st_a1 h0 a 50, wd_e cx_T cy (st_a1 h0 a) (st_u1 a) st_Mc 50) H := by
  have h := hP _ (List.mem_of_getElem? (i := 19) rfl)
  exact h.trans (congrArg some (st_q (fun j hj => by
    match j, hj with
    | 0, _ => rfl
    | 1, _ => rfl
    | 2, _ => rfl
    | q + 3, h => exact absurd h (by omega))))
theorem st_c51 {D : va_G} {cy : Nat → ClassId} {h0 : Nat} {a : Nat → Nat} {H : Heap} (hP : ∀ q ∈ st_L1 cy h0 a, va_at D vwCl q H) : va_at D vwCl (st_a1 h0 a 51, wd_e cx_T cy (st_a1 h0 a) (st_u1 a) st_Mc 51) H := hP _ (List.mem_of_getElem? (i := 14) rfl)
theorem st_c52 {D : va_G} {cy : Nat → ClassId} {h0 : Nat} {a : Nat → Nat} {H : Heap} (hP : ∀ q ∈ st_L1 cy h0 a, va_at D vwCl q H) : va_at D vwCl (st_a1 h0 a 52, wd_e cx_T cy (st_a1 h0 a) (st_u1 a) st_Mc 52) H := hP _ (List.mem_of_getElem? (i := 13) rfl)
theorem st_c53 {D : va_G} {cy : Nat → ClassId} {h0 : Nat} {a : Nat → Nat} {H : Heap} (hP : ∀ q ∈ st_L1 cy h0 a, va_at D vwCl q H) : va_at D vwCl (st_a1 h0 a 53, wd_e cx_T cy (st_a1 h0 a) (st_u1 a) st_Mc 53) H := hP _ (List.mem_of_getElem? (i := 12) rfl)
theorem st_c54 {D : va_G} {cy : Nat → ClassId} {h0 : Nat} {a : Nat → Nat} {H : Heap} (hP : ∀ q ∈ st_L1 cy h0 a, va_at D vwCl q H) : va_at D vwCl (st_a1 h0 a 54, wd_e cx_T cy (st_a1 h0 a) (st_u1 a) st_Mc 54) H := hP _ (List.mem_of_getElem? (i := 11) rfl)
theorem st_c55 {D : va_G} {cy : Nat → ClassId} {h0 : Nat} {a : Nat → Nat} {H : Heap} (hP : ∀ q ∈ st_L1 cy h0 a, va_at D vwCl q H) : va_at D vwCl (st_a1 h0 a 55, wd_e cx_T cy (st_a1 h0 a) (st_u1 a) st_Mc 55) H := hP _ (List.mem_of_getElem? (i := 10) rfl)
theorem st_c56 {D : va_G} {cy : Nat → ClassId} {h0 : Nat} {a : Nat → Nat} {H : Heap} (hP : ∀ q ∈ st_L1 cy h0 a, va_at D vwCl q H) : va_at D vwCl (st_a1 h0 a 56, wd_e cx_T cy (st_a1 h0 a) (st_u1 a) st_Mc 56) H := hP _ (List.mem_of_getElem? (i := 9) rfl)
theorem st_c57 {D : va_G} {cy : Nat → ClassId} {h0 : Nat} {a : Nat → Nat} {H : Heap} (hP : ∀ q ∈ st_L1 cy h0 a, va_at D vwCl q H) : va_at D vwCl (st_a1 h0 a 57, wd_e cx_T cy (st_a1 h0 a) (st_u1 a) st_Mc 57) H := hP _ (List.mem_of_getElem? (i := 8) rfl)
theorem st_c58 {D : va_G} {cy : Nat → ClassId} {h0 : Nat} {a : Nat → Nat} {H : Heap} (hP : ∀ q ∈ st_L1 cy h0 a, va_at D vwCl q H) : va_at D vwCl (st_a1 h0 a 58, wd_e cx_T cy (st_a1 h0 a) (st_u1 a) st_Mc 58) H := hP _ (List.mem_of_getElem? (i := 7) rfl)
theorem st_c59 {D : va_G} {cy : Nat → ClassId} {h0 : Nat} {a : Nat → Nat} {H : Heap} (hP : ∀ q ∈ st_L1 cy h0 a, va_at D vwCl q H) : va_at D vwCl (st_a1 h0 a 59, wd_e cx_T cy (st_a1 h0 a) (st_u1 a) st_Mc 59) H := hP _ (List.mem_of_getElem? (i := 6) rfl)
theorem st_c60 {D : va_G} {cy : Nat → ClassId} {h0 : Nat} {a : Nat → Nat} {H : Heap} (hP : ∀ q ∈ st_L1 cy h0 a, va_at D vwCl q H) : va_at D vwCl (st_a1 h0 a 60, wd_e cx_T cy (st_a1 h0 a) (st_u1 a) st_Mc 60) H := hP _ (List.mem_of_getElem? (i := 5) rfl)
theorem st_c61 {D : va_G} {cy : Nat → ClassId} {h0 : Nat} {a : Nat → Nat} {H : Heap} (hP : ∀ q ∈ st_L1 cy h0 a, va_at D vwCl q H) : va_at D vwCl (st_a1 h0 a 61, wd_e cx_T cy (st_a1 h0 a) (st_u1 a) st_Mc 61) H := hP _ (List.mem_of_getElem? (i := 4) rfl)
theorem st_c62 {D : va_G} {cy : Nat → ClassId} {h0 : Nat} {a : Nat → Nat} {H : Heap} (hP : ∀ q ∈ st_L1 cy h0 a, va_at D vwCl q H) : va_at D vwCl (st_a1 h0 a 62, wd_e cx_T cy (st_a1 h0 a) (st_u1 a) st_Mc 62) H := hP _ (List.mem_of_getElem? (i := 3) rfl)
theorem st_c63 {D : va_G} {cy : Nat → ClassId} {h0 : Nat} {a : Nat → Nat} {H : Heap} (hP : ∀ q ∈ st_L1 cy h0 a, va_at D vwCl q H) : va_at D vwCl (st_a1 h0 a 63, wd_e cx_T cy (st_a1 h0 a) (st_u1 a) st_Mc 63) H := hP _ (List.mem_of_getElem? (i := 2) rfl)
theorem st_c64 {D : va_G} {cy : Nat → ClassId} {h0 : Nat} {a : Nat → Nat} {H : Heap} (hP : ∀ q ∈ st_L1 cy h0 a, va_at D vwCl q H) : va_at D vwCl (st_a1 h0 a 64, wd_e cx_T cy (st_a1 h0 a) (st_u1 a) st_Mc 64) H := hP _ (List.mem_of_getElem? (i := 1) rfl)
theorem st_c65 {D : va_G} {cy : Nat → ClassId} {h0 : Nat} {a : Nat → Nat} {H : Heap} (hP : ∀ q ∈ st_L1 cy h0 a, va_at D vwCl q H) : va_at D vwCl (st_a1 h0 a 65, wd_e cx_T cy (st_a1 h0 a) (st_u1 a) st_Mc 65) H := hP _ (List.mem_of_getElem? (i := 0) rfl)
theorem st_c66 {D : va_G} {cy : Nat → ClassId} {h0 : Nat} {a : Nat → Nat} {H : Heap} (hP : ∀ q ∈ st_L1 cy h0 a, va_at D vwCl q H) : va_at D vwCl (st_a1 h0 a 66, wd_e cx_T cy (st_a1 h0 a) (st_u1 a) st_Mc 66) H := hP _ (List.mem_of_getElem? (i := 18) rfl)
theorem st_c67 {D : va_G} {cy : Nat → ClassId} {h0 : Nat} {a : Nat → Nat} {H : Heap} (hP : ∀ q ∈ st_L1 cy h0 a, va_at D vwCl q H) : va_at D vwCl (st_a1 h0 a 67, wd_e cx_T cy (st_a1 h0 a) (st_u1 a) st_Mc 67) H := hP _ (List.mem_of_getElem? (i := 17) rfl)
theorem st_c68 {D : va_G} {cy : Nat → ClassId} {h0 : Nat} {a : Nat → Nat} {H : Heap} (hP : ∀ q ∈ st_L1 cy h0 a, va_at D vwCl q H) : va_at D vwCl (st_a1 h0 a 68, wd_e cx_T cy (st_a1 h0 a) (st_u1 a) st_Mc 68) H := hP _ (List.mem_of_getElem? (i := 16) rfl)
theorem st_c69 {D : va_G} {cy : Nat → ClassId} {h0 : Nat} {a : Nat → Nat} {H : Heap} (hP : ∀ q ∈ st_L1 cy h0 a, va_at D vwCl q H) : va_at D vwCl (st_a1 h0 a 69, wd_e cx_T cy (st_a1 h0 a) (st_u1 a) st_Mc 69) H := hP _ (List.mem_of_getElem? (i := 15) rfl)
theorem st_r0 {D : va_G} {cy : Nat → ClassId} {h0 : Nat} {a : Nat → Nat} {H : Heap} (hP : ∀ q ∈ st_L2 cy h0 a, va_at D vwCl q H) : va_at D vwCl (st_a2 h0 a 0, wd_e rf_T cy (st_a2 h0 a) (0, 0) st_Mr 0) H := by
  have e : wd_e rf_T cy (st_a2 h0 a) (0, 0) st_Mr 0 = .inr (11, [.int 0, .int 0, .ref (a 41), .ref (a 40), .int 0, .int 0, .int 0, .ref (a 39), .int 0, .ref (a 38), .ref (a 37), .int 0, .ref (a 36), .ref (a 35), .ref (a 34), .ref (a 33), .ref (a 32), .ref (a 31), .ref (a 30), .ref (a 29), .ref (a 28), .ref (a 27), .ref (a 26), .ref (a 25), .int 0, .int 0, .int (-1), .int (-1), .int 0, .ref (a 24), .ref (a 23), .ref (a 22), .ref (a 21), .ref (a 20), .ref (a 19), .ref (a 18), .ref (a 17), .ref (a 16), .ref (a 15), .int 0, .ref (a 14), .ref (a 13), .int 0, .ref (a 12), .ref (a 11), .ref (a 10), .ref (a 9), .ref (a 8), .ref (a 7), .int 0, .int 0, .ref (a 6), .ref (a 5), .ref (a 4), .ref (a 3), .ref (a 2), .ref (a 1), .ref (a 0)]) := by
    show Sum.inr (11, wd_fs (st_a2 h0 a) (0, 0) rf_T.2.1 st_Mr 0 (wd_fl 11)) = _
    simp only [wd_fs, wd_fl, List.mapIdx_cons, List.mapIdx_nil, wd_v]
    rfl
  rw [e]
  exact hP _ (List.mem_of_getElem? (i := 42) rfl)
theorem st_r1 {D : va_G} {cy : Nat → ClassId} {h0 : Nat} {a : Nat → Nat} {H : Heap} (hP : ∀ q ∈ st_L2 cy h0 a, va_at D vwCl q H) : va_at D vwCl (st_a2 h0 a 1, wd_e rf_T cy (st_a2 h0 a) (0, 0) st_Mr 1) H := hP _ (List.mem_of_getElem? (i := 41) rfl)
theorem st_r2 {D : va_G} {cy : Nat → ClassId} {h0 : Nat} {a : Nat → Nat} {H : Heap} (hP : ∀ q ∈ st_L2 cy h0 a, va_at D vwCl q H) : va_at D vwCl (st_a2 h0 a 2, wd_e rf_T cy (st_a2 h0 a) (0, 0) st_Mr 2) H := hP _ (List.mem_of_getElem? (i := 40) rfl)
theorem st_r3 {D : va_G} {cy : Nat → ClassId} {h0 : Nat} {a : Nat → Nat} {H : Heap} (hP : ∀ q ∈ st_L2 cy h0 a, va_at D vwCl q H) : va_at D vwCl (st_a2 h0 a 3, wd_e rf_T cy (st_a2 h0 a) (0, 0) st_Mr 3) H := hP _ (List.mem_of_getElem? (i := 39) rfl)
theorem st_r4 {D : va_G} {cy : Nat → ClassId} {h0 : Nat} {a : Nat → Nat} {H : Heap} (hP : ∀ q ∈ st_L2 cy h0 a, va_at D vwCl q H) : va_at D vwCl (st_a2 h0 a 4, wd_e rf_T cy (st_a2 h0 a) (0, 0) st_Mr 4) H := hP _ (List.mem_of_getElem? (i := 38) rfl)
theorem st_r5 {D : va_G} {cy : Nat → ClassId} {h0 : Nat} {a : Nat → Nat} {H : Heap} (hP : ∀ q ∈ st_L2 cy h0 a, va_at D vwCl q H) : va_at D vwCl (st_a2 h0 a 5, wd_e rf_T cy (st_a2 h0 a) (0, 0) st_Mr 5) H := hP _ (List.mem_of_getElem? (i := 37) rfl)
theorem st_r6 {D : va_G} {cy : Nat → ClassId} {h0 : Nat} {a : Nat → Nat} {H : Heap} (hP : ∀ q ∈ st_L2 cy h0 a, va_at D vwCl q H) : va_at D vwCl (st_a2 h0 a 6, wd_e rf_T cy (st_a2 h0 a) (0, 0) st_Mr 6) H := hP _ (List.mem_of_getElem? (i := 36) rfl)
theorem st_r7 {D : va_G} {cy : Nat → ClassId} {h0 : Nat} {a : Nat → Nat} {H : Heap} (hP : ∀ q ∈ st_L2 cy h0 a, va_at D vwCl q H) : va_at D vwCl (st_a2 h0 a 7, wd_e rf_T cy (st_a2 h0 a) (0, 0) st_Mr 7) H := hP _ (List.mem_of_getElem? (i := 35) rfl)
theorem st_r8 {D : va_G} {cy : Nat → ClassId} {h0 : Nat} {a : Nat → Nat} {H : Heap} (hP : ∀ q ∈ st_L2 cy h0 a, va_at D vwCl q H) : va_at D vwCl (st_a2 h0 a 8, wd_e rf_T cy (st_a2 h0 a) (0, 0) st_Mr 8) H := hP _ (List.mem_of_getElem? (i := 34) rfl)
theorem st_r9 {D : va_G} {cy : Nat → ClassId} {h0 : Nat} {a : Nat → Nat} {H : Heap} (hP : ∀ q ∈ st_L2 cy h0 a, va_at D vwCl q H) : va_at D vwCl (st_a2 h0 a 9, wd_e rf_T cy (st_a2 h0 a) (0, 0) st_Mr 9) H := hP _ (List.mem_of_getElem? (i := 33) rfl)
theorem st_r10 {D : va_G} {cy : Nat → ClassId} {h0 : Nat} {a : Nat → Nat} {H : Heap} (hP : ∀ q ∈ st_L2 cy h0 a, va_at D vwCl q H) : va_at D vwCl (st_a2 h0 a 10, wd_e rf_T cy (st_a2 h0 a) (0, 0) st_Mr 10) H := hP _ (List.mem_of_getElem? (i := 32) rfl)
theorem st_r11 {D : va_G} {cy : Nat → ClassId} {h0 : Nat} {a : Nat → Nat} {H : Heap} (hP : ∀ q ∈ st_L2 cy h0 a, va_at D vwCl q H) : va_at D vwCl (st_a2 h0 a 11, wd_e rf_T cy (st_a2 h0 a) (0, 0) st_Mr 11) H := hP _ (List.mem_of_getElem? (i := 31) rfl)
theorem st_r12 {D : va_G} {cy : Nat → ClassId} {h0 : Nat} {a : Nat → Nat} {H : Heap} (hP : ∀ q ∈ st_L2 cy h0 a, va_at D vwCl q H) : va_at D vwCl (st_a2 h0 a 12, wd_e rf_T cy (st_a2 h0 a) (0, 0) st_Mr 12) H := hP _ (List.mem_of_getElem? (i := 30) rfl)
theorem st_r13 {D : va_G} {cy : Nat → ClassId} {h0 : Nat} {a : Nat → Nat} {H : Heap} (hP : ∀ q ∈ st_L2 cy h0 a, va_at D vwCl q H) : va_at D vwCl (st_a2 h0 a 13, wd_e rf_T cy (st_a2 h0 a) (0, 0) st_Mr 13) H := hP _ (List.mem_of_getElem? (i := 29) rfl)
theorem st_r14 {D : va_G} {cy : Nat → ClassId} {h0 : Nat} {a : Nat → Nat} {H : Heap} (hP : ∀ q ∈ st_L2 cy h0 a, va_at D vwCl q H) : va_at D vwCl (st_a2 h0 a 14, wd_e rf_T cy (st_a2 h0 a) (0, 0) st_Mr 14) H := hP _ (List.mem_of_getElem? (i := 28) rfl)
theorem st_r15 {D : va_G} {cy : Nat → ClassId} {h0 : Nat} {a : Nat → Nat} {H : Heap} (hP : ∀ q ∈ st_L2 cy h0 a, va_at D vwCl q H) : va_at D vwCl (st_a2 h0 a 15, wd_e rf_T cy (st_a2 h0 a) (0, 0) st_Mr 15) H := hP _ (List.mem_of_getElem? (i := 27) rfl)
theorem st_r16 {D : va_G} {cy : Nat → ClassId} {h0 : Nat} {a : Nat → Nat} {H : Heap} (hP : ∀ q ∈ st_L2 cy h0 a, va_at D vwCl q H) : va_at D vwCl (st_a2 h0 a 16, wd_e rf_T cy (st_a2 h0 a) (0, 0) st_Mr 16) H := hP _ (List.mem_of_getElem? (i := 26) rfl)
theorem st_r17 {D : va_G} {cy : Nat → ClassId} {h0 : Nat} {a : Nat → Nat} {H : Heap} (hP : ∀ q ∈ st_L2 cy h0 a, va_at D vwCl q H) : va_at D vwCl (st_a2 h0 a 17, wd_e rf_T cy (st_a2 h0 a) (0, 0) st_Mr 17) H := hP _ (List.mem_of_getElem? (i := 25) rfl)
theorem st_r18 {D : va_G} {cy : Nat → ClassId} {h0 : Nat} {a : Nat → Nat} {H : Heap} (hP : ∀ q ∈ st_L2 cy h0 a, va_at D vwCl q H) : va_at D vwCl (st_a2 h0 a 18, wd_e rf_T cy (st_a2 h0 a) (0, 0) st_Mr 18) H := hP _ (List.mem_of_getElem? (i := 24) rfl)
theorem st_r19 {D : va_G} {cy : Nat → ClassId} {h0 : Nat} {a : Nat → Nat} {H : Heap} (hP : ∀ q ∈ st_L2 cy h0 a, va_at D vwCl q H) : va_at D vwCl (st_a2 h0 a 19, wd_e rf_T cy (st_a2 h0 a) (0, 0) st_Mr 19) H := hP _ (List.mem_of_getElem? (i := 23) rfl)
theorem st_r20 {D : va_G} {cy : Nat → ClassId} {h0 : Nat} {a : Nat → Nat} {H : Heap} (hP : ∀ q ∈ st_L2 cy h0 a, va_at D vwCl q H) : va_at D vwCl (st_a2 h0 a 20, wd_e rf_T cy (st_a2 h0 a) (0, 0) st_Mr 20) H := hP _ (List.mem_of_getElem? (i := 22) rfl)
theorem st_r21 {D : va_G} {cy : Nat → ClassId} {h0 : Nat} {a : Nat → Nat} {H : Heap} (hP : ∀ q ∈ st_L2 cy h0 a, va_at D vwCl q H) : va_at D vwCl (st_a2 h0 a 21, wd_e rf_T cy (st_a2 h0 a) (0, 0) st_Mr 21) H := hP _ (List.mem_of_getElem? (i := 21) rfl)
theorem st_r22 {D : va_G} {cy : Nat → ClassId} {h0 : Nat} {a : Nat → Nat} {H : Heap} (hP : ∀ q ∈ st_L2 cy h0 a, va_at D vwCl q H) : va_at D vwCl (st_a2 h0 a 22, wd_e rf_T cy (st_a2 h0 a) (0, 0) st_Mr 22) H := hP _ (List.mem_of_getElem? (i := 20) rfl)
theorem st_r23 {D : va_G} {cy : Nat → ClassId} {h0 : Nat} {a : Nat → Nat} {H : Heap} (hP : ∀ q ∈ st_L2 cy h0 a, va_at D vwCl q H) : va_at D vwCl (st_a2 h0 a 23, wd_e rf_T cy (st_a2 h0 a) (0, 0) st_Mr 23) H := hP _ (List.mem_of_getElem? (i := 19) rfl)
theorem st_r24 {D : va_G} {cy : Nat → ClassId} {h0 : Nat} {a : Nat → Nat} {H : Heap} (hP : ∀ q ∈ st_L2 cy h0 a, va_at D vwCl q H) : va_at D vwCl (st_a2 h0 a 24, wd_e rf_T cy (st_a2 h0 a) (0, 0) st_Mr 24) H := hP _ (List.mem_of_getElem? (i := 18) rfl)
theorem st_r25 {D : va_G} {cy : Nat → ClassId} {h0 : Nat} {a : Nat → Nat} {H : Heap} (hP : ∀ q ∈ st_L2 cy h0 a, va_at D vwCl q H) : va_at D vwCl (st_a2 h0 a 25, wd_e rf_T cy (st_a2 h0 a) (0, 0) st_Mr 25) H := hP _ (List.mem_of_getElem? (i := 17) rfl)
theorem st_r26 {D : va_G} {cy : Nat → ClassId} {h0 : Nat} {a : Nat → Nat} {H : Heap} (hP : ∀ q ∈ st_L2 cy h0 a, va_at D vwCl q H) : va_at D vwCl (st_a2 h0 a 26, wd_e rf_T cy (st_a2 h0 a) (0, 0) st_Mr 26) H := hP _ (List.mem_of_getElem? (i := 16) rfl)
theorem st_r27 {D : va_G} {cy : Nat → ClassId} {h0 : Nat} {a : Nat → Nat} {H : Heap} (hP : ∀ q ∈ st_L2 cy h0 a, va_at D vwCl q H) : va_at D vwCl (st_a2 h0 a 27, wd_e rf_T cy (st_a2 h0 a) (0, 0) st_Mr 27) H := hP _ (List.mem_of_getElem? (i := 15) rfl)
theorem st_r28 {D : va_G} {cy : Nat → ClassId} {h0 : Nat} {a : Nat → Nat} {H : Heap} (hP : ∀ q ∈ st_L2 cy h0 a, va_at D vwCl q H) : va_at D vwCl (st_a2 h0 a 28, wd_e rf_T cy (st_a2 h0 a) (0, 0) st_Mr 28) H := hP _ (List.mem_of_getElem? (i := 14) rfl)
theorem st_r29 {D : va_G} {cy : Nat → ClassId} {h0 : Nat} {a : Nat → Nat} {H : Heap} (hP : ∀ q ∈ st_L2 cy h0 a, va_at D vwCl q H) : va_at D vwCl (st_a2 h0 a 29, wd_e rf_T cy (st_a2 h0 a) (0, 0) st_Mr 29) H := hP _ (List.mem_of_getElem? (i := 13) rfl)
theorem st_r30 {D : va_G} {cy : Nat → ClassId} {h0 : Nat} {a : Nat → Nat} {H : Heap} (hP : ∀ q ∈ st_L2 cy h0 a, va_at D vwCl q H) : va_at D vwCl (st_a2 h0 a 30, wd_e rf_T cy (st_a2 h0 a) (0, 0) st_Mr 30) H := hP _ (List.mem_of_getElem? (i := 12) rfl)
theorem st_r31 {D : va_G} {cy : Nat → ClassId} {h0 : Nat} {a : Nat → Nat} {H : Heap} (hP : ∀ q ∈ st_L2 cy h0 a, va_at D vwCl q H) : va_at D vwCl (st_a2 h0 a 31, wd_e rf_T cy (st_a2 h0 a) (0, 0) st_Mr 31) H := hP _ (List.mem_of_getElem? (i := 11) rfl)
theorem st_r32 {D : va_G} {cy : Nat → ClassId} {h0 : Nat} {a : Nat → Nat} {H : Heap} (hP : ∀ q ∈ st_L2 cy h0 a, va_at D vwCl q H) : va_at D vwCl (st_a2 h0 a 32, wd_e rf_T cy (st_a2 h0 a) (0, 0) st_Mr 32) H := hP _ (List.mem_of_getElem? (i := 10) rfl)
theorem st_r33 {D : va_G} {cy : Nat → ClassId} {h0 : Nat} {a : Nat → Nat} {H : Heap} (hP : ∀ q ∈ st_L2 cy h0 a, va_at D vwCl q H) : va_at D vwCl (st_a2 h0 a 33, wd_e rf_T cy (st_a2 h0 a) (0, 0) st_Mr 33) H := hP _ (List.mem_of_getElem? (i := 9) rfl)
theorem st_r34 {D : va_G} {cy : Nat → ClassId} {h0 : Nat} {a : Nat → Nat} {H : Heap} (hP : ∀ q ∈ st_L2 cy h0 a, va_at D vwCl q H) : va_at D vwCl (st_a2 h0 a 34, wd_e rf_T cy (st_a2 h0 a) (0, 0) st_Mr 34) H := hP _ (List.mem_of_getElem? (i := 8) rfl)
theorem st_r35 {D : va_G} {cy : Nat → ClassId} {h0 : Nat} {a : Nat → Nat} {H : Heap} (hP : ∀ q ∈ st_L2 cy h0 a, va_at D vwCl q H) : va_at D vwCl (st_a2 h0 a 35, wd_e rf_T cy (st_a2 h0 a) (0, 0) st_Mr 35) H := hP _ (List.mem_of_getElem? (i := 7) rfl)
theorem st_r36 {D : va_G} {cy : Nat → ClassId} {h0 : Nat} {a : Nat → Nat} {H : Heap} (hP : ∀ q ∈ st_L2 cy h0 a, va_at D vwCl q H) : va_at D vwCl (st_a2 h0 a 36, wd_e rf_T cy (st_a2 h0 a) (0, 0) st_Mr 36) H := hP _ (List.mem_of_getElem? (i := 6) rfl)
theorem st_r37 {D : va_G} {cy : Nat → ClassId} {h0 : Nat} {a : Nat → Nat} {H : Heap} (hP : ∀ q ∈ st_L2 cy h0 a, va_at D vwCl q H) : va_at D vwCl (st_a2 h0 a 37, wd_e rf_T cy (st_a2 h0 a) (0, 0) st_Mr 37) H := hP _ (List.mem_of_getElem? (i := 5) rfl)
theorem st_r38 {D : va_G} {cy : Nat → ClassId} {h0 : Nat} {a : Nat → Nat} {H : Heap} (hP : ∀ q ∈ st_L2 cy h0 a, va_at D vwCl q H) : va_at D vwCl (st_a2 h0 a 38, wd_e rf_T cy (st_a2 h0 a) (0, 0) st_Mr 38) H := hP _ (List.mem_of_getElem? (i := 4) rfl)
theorem st_r39 {D : va_G} {cy : Nat → ClassId} {h0 : Nat} {a : Nat → Nat} {H : Heap} (hP : ∀ q ∈ st_L2 cy h0 a, va_at D vwCl q H) : va_at D vwCl (st_a2 h0 a 39, wd_e rf_T cy (st_a2 h0 a) (0, 0) st_Mr 39) H := hP _ (List.mem_of_getElem? (i := 3) rfl)
theorem st_r40 {D : va_G} {cy : Nat → ClassId} {h0 : Nat} {a : Nat → Nat} {H : Heap} (hP : ∀ q ∈ st_L2 cy h0 a, va_at D vwCl q H) : va_at D vwCl (st_a2 h0 a 40, wd_e rf_T cy (st_a2 h0 a) (0, 0) st_Mr 40) H := hP _ (List.mem_of_getElem? (i := 2) rfl)
theorem st_r41 {D : va_G} {cy : Nat → ClassId} {h0 : Nat} {a : Nat → Nat} {H : Heap} (hP : ∀ q ∈ st_L2 cy h0 a, va_at D vwCl q H) : va_at D vwCl (st_a2 h0 a 41, wd_e rf_T cy (st_a2 h0 a) (0, 0) st_Mr 41) H := hP _ (List.mem_of_getElem? (i := 1) rfl)
theorem st_r42 {D : va_G} {cy : Nat → ClassId} {h0 : Nat} {a : Nat → Nat} {H : Heap} (hP : ∀ q ∈ st_L2 cy h0 a, va_at D vwCl q H) : va_at D vwCl (st_a2 h0 a 42, wd_e rf_T cy (st_a2 h0 a) (0, 0) st_Mr 42) H := hP _ (List.mem_of_getElem? (i := 0) rfl)
theorem st_cA {D : va_G} {cy : Nat → ClassId} {h0 : Nat} {a : Nat → Nat} {H : Heap} (hP : ∀ q ∈ st_L1 cy h0 a, va_at D vwCl q H) : ∀ k, k < 70 → va_at D vwCl (st_a1 h0 a k, wd_e cx_T cy (st_a1 h0 a) (st_u1 a) st_Mc k) H := by
  intro k hk
  match k, hk with
  | 0, _ => exact st_c0 hP
  | 1, _ => exact st_c1 hP
  | 2, _ => exact st_c2 hP
  | 3, _ => exact st_c3 hP
  | 4, _ => exact st_c4 hP
  | 5, _ => exact st_c5 hP
  | 6, _ => exact st_c6 hP
  | 7, _ => exact st_c7 hP
  | 8, _ => exact st_c8 hP
  | 9, _ => exact st_c9 hP
  | 10, _ => exact st_c10 hP
  | 11, _ => exact st_c11 hP
  | 12, _ => exact st_c12 hP
  | 13, _ => exact st_c13 hP
  | 14, _ => exact st_c14 hP
  | 15, _ => exact st_c15 hP
  | 16, _ => exact st_c16 hP
  | 17, _ => exact st_c17 hP
  | 18, _ => exact st_c18 hP
  | 19, _ => exact st_c19 hP
  | 20, _ => exact st_c20 hP
  | 21, _ => exact st_c21 hP
  | 22, _ => exact st_c22 hP
  | 23, _ => exact st_c23 hP
  | 24, _ => exact st_c24 hP
  | 25, _ => exact st_c25 hP
  | 26, _ => exact st_c26 hP
  | 27, _ => exact st_c27 hP
  | 28, _ => exact st_c28 hP
  | 29, _ => exact st_c29 hP
  | 30, _ => exact st_c30 hP
  | 31, _ => exact st_c31 hP
  | 32, _ => exact st_c32 hP
  | 33, _ => exact st_c33 hP
  | 34, _ => exact st_c34 hP
  | 35, _ => exact st_c35 hP
  | 36, _ => exact st_c36 hP
  | 37, _ => exact st_c37 hP
  | 38, _ => exact st_c38 hP
  | 39, _ => exact st_c39 hP
  | 40, _ => exact st_c40 hP
  | 41, _ => exact st_c41 hP
  | 42, _ => exact st_c42 hP
  | 43, _ => exact st_c43 hP
  | 44, _ => exact st_c44 hP
  | 45, _ => exact st_c45 hP
  | 46, _ => exact st_c46 hP
  | 47, _ => exact st_c47 hP
  | 48, _ => exact st_c48 hP
  | 49, _ => exact st_c49 hP
  | 50, _ => exact st_c50 hP
  | 51, _ => exact st_c51 hP
  | 52, _ => exact st_c52 hP
  | 53, _ => exact st_c53 hP
  | 54, _ => exact st_c54 hP
  | 55, _ => exact st_c55 hP
  | 56, _ => exact st_c56 hP
  | 57, _ => exact st_c57 hP
  | 58, _ => exact st_c58 hP
  | 59, _ => exact st_c59 hP
  | 60, _ => exact st_c60 hP
  | 61, _ => exact st_c61 hP
  | 62, _ => exact st_c62 hP
  | 63, _ => exact st_c63 hP
  | 64, _ => exact st_c64 hP
  | 65, _ => exact st_c65 hP
  | 66, _ => exact st_c66 hP
  | 67, _ => exact st_c67 hP
  | 68, _ => exact st_c68 hP
  | 69, _ => exact st_c69 hP
  | q + 70, h => exact absurd h (by omega)
theorem st_rA {D : va_G} {cy : Nat → ClassId} {h0 : Nat} {a : Nat → Nat} {H : Heap} (hP : ∀ q ∈ st_L2 cy h0 a, va_at D vwCl q H) : ∀ k, k < 43 → va_at D vwCl (st_a2 h0 a k, wd_e rf_T cy (st_a2 h0 a) (0, 0) st_Mr k) H := by
  intro k hk
  match k, hk with
  | 0, _ => exact st_r0 hP
  | 1, _ => exact st_r1 hP
  | 2, _ => exact st_r2 hP
  | 3, _ => exact st_r3 hP
  | 4, _ => exact st_r4 hP
  | 5, _ => exact st_r5 hP
  | 6, _ => exact st_r6 hP
  | 7, _ => exact st_r7 hP
  | 8, _ => exact st_r8 hP
  | 9, _ => exact st_r9 hP
  | 10, _ => exact st_r10 hP
  | 11, _ => exact st_r11 hP
  | 12, _ => exact st_r12 hP
  | 13, _ => exact st_r13 hP
  | 14, _ => exact st_r14 hP
  | 15, _ => exact st_r15 hP
  | 16, _ => exact st_r16 hP
  | 17, _ => exact st_r17 hP
  | 18, _ => exact st_r18 hP
  | 19, _ => exact st_r19 hP
  | 20, _ => exact st_r20 hP
  | 21, _ => exact st_r21 hP
  | 22, _ => exact st_r22 hP
  | 23, _ => exact st_r23 hP
  | 24, _ => exact st_r24 hP
  | 25, _ => exact st_r25 hP
  | 26, _ => exact st_r26 hP
  | 27, _ => exact st_r27 hP
  | 28, _ => exact st_r28 hP
  | 29, _ => exact st_r29 hP
  | 30, _ => exact st_r30 hP
  | 31, _ => exact st_r31 hP
  | 32, _ => exact st_r32 hP
  | 33, _ => exact st_r33 hP
  | 34, _ => exact st_r34 hP
  | 35, _ => exact st_r35 hP
  | 36, _ => exact st_r36 hP
  | 37, _ => exact st_r37 hP
  | 38, _ => exact st_r38 hP
  | 39, _ => exact st_r39 hP
  | 40, _ => exact st_r40 hP
  | 41, _ => exact st_r41 hP
  | 42, _ => exact st_r42 hP
  | q + 43, h => exact absurd h (by omega)
