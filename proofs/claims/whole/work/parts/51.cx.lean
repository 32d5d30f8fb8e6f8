/-! THE CLASS: its cells as a function of its state: written by wip/whole/cx.py -/
abbrev cx_T : Type := (Nat → Nat → Int32) × (Nat → Nat → Int32) × Int64 × (Nat → Int64) × Option Nat × (Nat → bk_T)
def cx_i (X : cx_T) (c k : Nat) : Int32 := X.1 c k
def cx_a (X : cx_T) (c n : Nat) : Int32 := X.2.1 c n
def cx_g (X : cx_T) : Int64 := X.2.2.1
def cx_q (X : cx_T) (n : Nat) : Int64 := X.2.2.2.1 n
def cx_o (X : cx_T) : Option Nat := X.2.2.2.2.1
def cx_b (X : cx_T) (c : Nat) : bk_T := X.2.2.2.2.2 c
def cx_ui (X : cx_T) (c k : Nat) (x : Int32) : cx_T := (fun j => if j = c then upd (X.1 c) k x else X.1 j, X.2)
def cx_ua (X : cx_T) (c n : Nat) (x : Int32) : cx_T := (X.1, fun j => if j = c then upd (X.2.1 c) n x else X.2.1 j, X.2.2)
def cx_ug (X : cx_T) (x : Int64) : cx_T := (X.1, X.2.1, x, X.2.2.2)
def cx_uq (X : cx_T) (n : Nat) (x : Int64) : cx_T := (X.1, X.2.1, X.2.2.1, vp_updL X.2.2.2.1 n x, X.2.2.2.2)
def cx_uo (X : cx_T) (x : Option Nat) : cx_T := (X.1, X.2.1, X.2.2.1, X.2.2.2.1, x, X.2.2.2.2.2)
def cx_ub (X : cx_T) (c : Nat) (B : bk_T) : cx_T := (X.1, X.2.1, X.2.2.1, X.2.2.2.1, X.2.2.2.2.1, fun j => if j = c then B else X.2.2.2.2.2 j)
def cx_c (X : cx_T) : ms_S := [.inr (8, [.ref 1, .ref 3, .ref 6, .ref 12, .ref 15, .ref 24, .ref 33, .ref 41, .ref 50, .ref 63, .ref 64, .int (cx_i X 0 11), .int (cx_i X 0 12)]), .inr (6, [.ref 2, .int (cx_i X 1 1)]), .inl (0, 400, .inl (cx_a X 2)), .inr (5, [.ref 1, .ref 4, .ref 5, .int (cx_i X 3 3), .int (cx_i X 3 4), .int (cx_i X 3 5), .int (cx_i X 3 6), .int (cx_i X 3 7), .int (cx_i X 3 8), .int (cx_i X 3 9)]), .inl (0, 800, .inl (cx_a X 4)), .inl (0, 48, .inl (cx_a X 5)), .inr (0, bk_o 6 (cx_b X 6)), .inl (0, 48, .inl (bk_th (cx_b X 6))), .inl (0, 64, .inl (bk_pa (cx_b X 6))), .inl (0, 192, .inl (bk_li (cx_b X 6))), .inl (0, 960, .inl (bk_en (cx_b X 6))), .inl (3, 20, .inr (.inr (bk_tx (cx_b X 6)))), .inr (2, [.ref 13, .ref 14, .long (cx_g X)]), .inl (0, 12, .inl (cx_a X 13)), .inl (1, 52, .inr (.inl (cx_q X))), .inr (1, [.ref 12, va_rf (cx_o X), .int (cx_i X 15 2), .int (cx_i X 15 3), .int (cx_i X 15 4), .ref 16, .ref 17, .ref 18, .ref 19, .ref 20, .ref 21, .ref 22, .ref 23, .int (cx_i X 15 13), .int (cx_i X 15 14)]), .inl (0, 9, .inl (cx_a X 16)), .inl (0, 12, .inl (cx_a X 17)), .inl (2, 12, .inl (cx_a X 18)), .inl (0, 108, .inl (cx_a X 19)), .inl (0, 108, .inl (cx_a X 20)), .inl (0, 120, .inl (cx_a X 21)), .inl (0, 10, .inl (cx_a X 22)), .inl (0, 12, .inl (cx_a X 23)), .inr (3, [.ref 6, .ref 12, .ref 15, .ref 25, .ref 26, .ref 27, .ref 28, .ref 29, .ref 30, .ref 31, .ref 32]), .inl (0, 16, .inl (cx_a X 25)), .inl (0, 16, .inl (cx_a X 26)), .inl (0, 16, .inl (cx_a X 27)), .inl (0, 16, .inl (cx_a X 28)), .inl (0, 16, .inl (cx_a X 29)), .inl (0, 120, .inl (cx_a X 30)), .inl (0, 208, .inl (cx_a X 31)), .inl (0, 121, .inl (cx_a X 32)), .inr (4, [.ref 34, .ref 40, .int (cx_i X 33 2), .int (cx_i X 33 3)]), .inr (0, bk_o 34 (cx_b X 34)), .inl (0, 48, .inl (bk_th (cx_b X 34))), .inl (0, 64, .inl (bk_pa (cx_b X 34))), .inl (0, 192, .inl (bk_li (cx_b X 34))), .inl (0, 960, .inl (bk_en (cx_b X 34))), .inl (3, 20, .inr (.inr (bk_tx (cx_b X 34)))), .inl (0, 120, .inl (cx_a X 40)), .inr (3, [.ref 34, .ref 12, .ref 15, .ref 42, .ref 43, .ref 44, .ref 45, .ref 46, .ref 47, .ref 48, .ref 49]), .inl (0, 16, .inl (cx_a X 42)), .inl (0, 16, .inl (cx_a X 43)), .inl (0, 16, .inl (cx_a X 44)), .inl (0, 16, .inl (cx_a X 45)), .inl (0, 16, .inl (cx_a X 46)), .inl (0, 120, .inl (cx_a X 47)), .inl (0, 208, .inl (cx_a X 48)), .inl (0, 121, .inl (cx_a X 49)), .inl (4, 2, .inr (.inr (va_up (va_up (fun _ => none) 0 (some 51)) 1 (some 57)))), .inr (0, bk_o 51 (cx_b X 51)), .inl (0, 48, .inl (bk_th (cx_b X 51))), .inl (0, 64, .inl (bk_pa (cx_b X 51))), .inl (0, 192, .inl (bk_li (cx_b X 51))), .inl (0, 960, .inl (bk_en (cx_b X 51))), .inl (3, 20, .inr (.inr (bk_tx (cx_b X 51)))), .inr (0, bk_o 57 (cx_b X 57)), .inl (0, 48, .inl (bk_th (cx_b X 57))), .inl (0, 64, .inl (bk_pa (cx_b X 57))), .inl (0, 192, .inl (bk_li (cx_b X 57))), .inl (0, 960, .inl (bk_en (cx_b X 57))), .inl (3, 20, .inr (.inr (bk_tx (cx_b X 57)))), .inl (2, 2, .inl (cx_a X 63)), .inl (0, 5, .inl (cx_a X 64))]
def ms_x (X : cx_T) (t : ms_S) : ms_S := cx_c X ++ t
section Cx
variable {d : Nat} {X Y : cx_T} {t : ms_S}
theorem ms_x_len : (ms_x X t).length = 65 + t.length := by unfold ms_x; rw [List.length_append]; rfl
theorem ms_x_l : (ms_x X t).length ≤ (ms_x Y t).length := by rw [ms_x_len, ms_x_len]; exact Nat.le_refl _
theorem ms_x_t : ms_tot (ms_x X t) ≤ ms_tot (ms_x Y t) := by
  unfold ms_x
  rw [ms_tot_app2, ms_tot_app2]
  exact Nat.le_refl _
theorem cx_get {c : Nat} {v : ms_C} (h : (cx_c X)[c]? = some v) : (ms_x X t)[c]? = some v := by
  unfold ms_x
  rw [List.getElem?_append_left (List.getElem?_eq_some_iff.mp h).1]
  exact h
theorem cx_set {c : Nat} (v : ms_C) (Y : cx_T) (h : (cx_c X).set c v = cx_c Y) (hc : c < 65) : (ms_x X t).set c v = ms_x Y t := by
  unfold ms_x
  rw [List.set_append_left _ _ (show c < (cx_c X).length from hc), h]
theorem xo_0 : (ms_x X t)[0]? = some (.inr (8, [.ref 1, .ref 3, .ref 6, .ref 12, .ref 15, .ref 24, .ref 33, .ref 41, .ref 50, .ref 63, .ref 64, .int (cx_i X 0 11), .int (cx_i X 0 12)])) := cx_get rfl
theorem xf_0_0 : ms_fldR (ms_x X t) 0 8 0 = some 1 := ms_fldR_of xo_0 rfl
theorem xf_0_1 : ms_fldR (ms_x X t) 0 8 1 = some 3 := ms_fldR_of xo_0 rfl
theorem xf_0_2 : ms_fldR (ms_x X t) 0 8 2 = some 6 := ms_fldR_of xo_0 rfl
theorem xf_0_3 : ms_fldR (ms_x X t) 0 8 3 = some 12 := ms_fldR_of xo_0 rfl
theorem xf_0_4 : ms_fldR (ms_x X t) 0 8 4 = some 15 := ms_fldR_of xo_0 rfl
theorem xf_0_5 : ms_fldR (ms_x X t) 0 8 5 = some 24 := ms_fldR_of xo_0 rfl
theorem xf_0_6 : ms_fldR (ms_x X t) 0 8 6 = some 33 := ms_fldR_of xo_0 rfl
theorem xf_0_7 : ms_fldR (ms_x X t) 0 8 7 = some 41 := ms_fldR_of xo_0 rfl
theorem xf_0_8 : ms_fldR (ms_x X t) 0 8 8 = some 50 := ms_fldR_of xo_0 rfl
theorem xf_0_9 : ms_fldR (ms_x X t) 0 8 9 = some 63 := ms_fldR_of xo_0 rfl
theorem xf_0_10 : ms_fldR (ms_x X t) 0 8 10 = some 64 := ms_fldR_of xo_0 rfl
theorem xf_0_11 : ms_fldI (ms_x X t) 0 8 11 = some (cx_i X 0 11) := ms_fldI_of xo_0 rfl
theorem xp_0_11 {x : Int32} {K : ms_S → Prop} : ms_wF (ms_x X t) 0 8 11 (.int x) K = K (ms_x (cx_ui X 0 11 x) t) := by
  unfold ms_wF ms_put; rw [ms_fld_of xo_0 (v := .int (cx_i X 0 11)) rfl, xo_0]
  show (True ∧ K ((ms_x X t).set 0 _)) = _
  rw [true_and, cx_set (X := X) (.inr (8, [.ref 1, .ref 3, .ref 6, .ref 12, .ref 15, .ref 24, .ref 33, .ref 41, .ref 50, .ref 63, .ref 64, .int (cx_i X 0 11), .int (cx_i X 0 12)].set 11 (.int x))) (cx_ui X 0 11 x) rfl (Nat.le_of_ble_eq_true rfl)]
theorem xf_0_12 : ms_fldI (ms_x X t) 0 8 12 = some (cx_i X 0 12) := ms_fldI_of xo_0 rfl
theorem xp_0_12 {x : Int32} {K : ms_S → Prop} : ms_wF (ms_x X t) 0 8 12 (.int x) K = K (ms_x (cx_ui X 0 12 x) t) := by
  unfold ms_wF ms_put; rw [ms_fld_of xo_0 (v := .int (cx_i X 0 12)) rfl, xo_0]
  show (True ∧ K ((ms_x X t).set 0 _)) = _
  rw [true_and, cx_set (X := X) (.inr (8, [.ref 1, .ref 3, .ref 6, .ref 12, .ref 15, .ref 24, .ref 33, .ref 41, .ref 50, .ref 63, .ref 64, .int (cx_i X 0 11), .int (cx_i X 0 12)].set 12 (.int x))) (cx_ui X 0 12 x) rfl (Nat.le_of_ble_eq_true rfl)]
theorem xo_1 : (ms_x X t)[1]? = some (.inr (6, [.ref 2, .int (cx_i X 1 1)])) := cx_get rfl
theorem xf_1_0 : ms_fldR (ms_x X t) 1 6 0 = some 2 := ms_fldR_of xo_1 rfl
theorem xf_1_1 : ms_fldI (ms_x X t) 1 6 1 = some (cx_i X 1 1) := ms_fldI_of xo_1 rfl
theorem xp_1_1 {x : Int32} {K : ms_S → Prop} : ms_wF (ms_x X t) 1 6 1 (.int x) K = K (ms_x (cx_ui X 1 1 x) t) := by
  unfold ms_wF ms_put; rw [ms_fld_of xo_1 (v := .int (cx_i X 1 1)) rfl, xo_1]
  show (True ∧ K ((ms_x X t).set 1 _)) = _
  rw [true_and, cx_set (X := X) (.inr (6, [.ref 2, .int (cx_i X 1 1)].set 1 (.int x))) (cx_ui X 1 1 x) rfl (Nat.le_of_ble_eq_true rfl)]
theorem xe_2 : ms_arr (ms_x X t) 2 = some (0, 400, .inl (cx_a X 2)) := by unfold ms_arr; rw [cx_get (v := .inl (0, 400, .inl (cx_a X 2))) rfl]
theorem xr_2 {i : Int32} {K : Int32 → Prop} : ms_rI (ms_x X t) 2 0 i K = (vp_in i 400 ∧ K (cx_a X 2 i.toNatClampNeg)) := by
  unfold ms_rI; rw [xe_2]; rfl
theorem xw_2 {i : Int32} {x : Int32} {K : ms_S → Prop} : ms_wI (ms_x X t) 2 i x K = (vp_in i 400 ∧ K (ms_x (cx_ua X 2 i.toNatClampNeg x) t)) := by
  unfold ms_wI; rw [xe_2]
  show (_ ∧ K ((ms_x X t).set 2 _)) = _
  rw [cx_set (X := X) (.inl (0, 400, .inl (upd (cx_a X 2) i.toNatClampNeg x))) (cx_ua X 2 i.toNatClampNeg x) rfl (Nat.le_of_ble_eq_true rfl)]
theorem xo_3 : (ms_x X t)[3]? = some (.inr (5, [.ref 1, .ref 4, .ref 5, .int (cx_i X 3 3), .int (cx_i X 3 4), .int (cx_i X 3 5), .int (cx_i X 3 6), .int (cx_i X 3 7), .int (cx_i X 3 8), .int (cx_i X 3 9)])) := cx_get rfl
theorem xf_3_0 : ms_fldR (ms_x X t) 3 5 0 = some 1 := ms_fldR_of xo_3 rfl
theorem xf_3_1 : ms_fldR (ms_x X t) 3 5 1 = some 4 := ms_fldR_of xo_3 rfl
theorem xf_3_2 : ms_fldR (ms_x X t) 3 5 2 = some 5 := ms_fldR_of xo_3 rfl
theorem xf_3_3 : ms_fldI (ms_x X t) 3 5 3 = some (cx_i X 3 3) := ms_fldI_of xo_3 rfl
theorem xp_3_3 {x : Int32} {K : ms_S → Prop} : ms_wF (ms_x X t) 3 5 3 (.int x) K = K (ms_x (cx_ui X 3 3 x) t) := by
  unfold ms_wF ms_put; rw [ms_fld_of xo_3 (v := .int (cx_i X 3 3)) rfl, xo_3]
  show (True ∧ K ((ms_x X t).set 3 _)) = _
  rw [true_and, cx_set (X := X) (.inr (5, [.ref 1, .ref 4, .ref 5, .int (cx_i X 3 3), .int (cx_i X 3 4), .int (cx_i X 3 5), .int (cx_i X 3 6), .int (cx_i X 3 7), .int (cx_i X 3 8), .int (cx_i X 3 9)].set 3 (.int x))) (cx_ui X 3 3 x) rfl (Nat.le_of_ble_eq_true rfl)]
theorem xf_3_4 : ms_fldI (ms_x X t) 3 5 4 = some (cx_i X 3 4) := ms_fldI_of xo_3 rfl
theorem xp_3_4 {x : Int32} {K : ms_S → Prop} : ms_wF (ms_x X t) 3 5 4 (.int x) K = K (ms_x (cx_ui X 3 4 x) t) := by
  unfold ms_wF ms_put; rw [ms_fld_of xo_3 (v := .int (cx_i X 3 4)) rfl, xo_3]
  show (True ∧ K ((ms_x X t).set 3 _)) = _
  rw [true_and, cx_set (X := X) (.inr (5, [.ref 1, .ref 4, .ref 5, .int (cx_i X 3 3), .int (cx_i X 3 4), .int (cx_i X 3 5), .int (cx_i X 3 6), .int (cx_i X 3 7), .int (cx_i X 3 8), .int (cx_i X 3 9)].set 4 (.int x))) (cx_ui X 3 4 x) rfl (Nat.le_of_ble_eq_true rfl)]
theorem xf_3_5 : ms_fldI (ms_x X t) 3 5 5 = some (cx_i X 3 5) := ms_fldI_of xo_3 rfl
theorem xp_3_5 {x : Int32} {K : ms_S → Prop} : ms_wF (ms_x X t) 3 5 5 (.int x) K = K (ms_x (cx_ui X 3 5 x) t) := by
  unfold ms_wF ms_put; rw [ms_fld_of xo_3 (v := .int (cx_i X 3 5)) rfl, xo_3]
  show (True ∧ K ((ms_x X t).set 3 _)) = _
  rw [true_and, cx_set (X := X) (.inr (5, [.ref 1, .ref 4, .ref 5, .int (cx_i X 3 3), .int (cx_i X 3 4), .int (cx_i X 3 5), .int (cx_i X 3 6), .int (cx_i X 3 7), .int (cx_i X 3 8), .int (cx_i X 3 9)].set 5 (.int x))) (cx_ui X 3 5 x) rfl (Nat.le_of_ble_eq_true rfl)]
theorem xf_3_6 : ms_fldI (ms_x X t) 3 5 6 = some (cx_i X 3 6) := ms_fldI_of xo_3 rfl
theorem xp_3_6 {x : Int32} {K : ms_S → Prop} : ms_wF (ms_x X t) 3 5 6 (.int x) K = K (ms_x (cx_ui X 3 6 x) t) := by
  unfold ms_wF ms_put; rw [ms_fld_of xo_3 (v := .int (cx_i X 3 6)) rfl, xo_3]
  show (True ∧ K ((ms_x X t).set 3 _)) = _
  rw [true_and, cx_set (X := X) (.inr (5, [.ref 1, .ref 4, .ref 5, .int (cx_i X 3 3), .int (cx_i X 3 4), .int (cx_i X 3 5), .int (cx_i X 3 6), .int (cx_i X 3 7), .int (cx_i X 3 8), .int (cx_i X 3 9)].set 6 (.int x))) (cx_ui X 3 6 x) rfl (Nat.le_of_ble_eq_true rfl)]
theorem xf_3_7 : ms_fldI (ms_x X t) 3 5 7 = some (cx_i X 3 7) := ms_fldI_of xo_3 rfl
theorem xp_3_7 {x : Int32} {K : ms_S → Prop} : ms_wF (ms_x X t) 3 5 7 (.int x) K = K (ms_x (cx_ui X 3 7 x) t) := by
  unfold ms_wF ms_put; rw [ms_fld_of xo_3 (v := .int (cx_i X 3 7)) rfl, xo_3]
  show (True ∧ K ((ms_x X t).set 3 _)) = _
  rw [true_and, cx_set (X := X) (.inr (5, [.ref 1, .ref 4, .ref 5, .int (cx_i X 3 3), .int (cx_i X 3 4), .int (cx_i X 3 5), .int (cx_i X 3 6), .int (cx_i X 3 7), .int (cx_i X 3 8), .int (cx_i X 3 9)].set 7 (.int x))) (cx_ui X 3 7 x) rfl (Nat.le_of_ble_eq_true rfl)]
theorem xf_3_8 : ms_fldI (ms_x X t) 3 5 8 = some (cx_i X 3 8) := ms_fldI_of xo_3 rfl
theorem xp_3_8 {x : Int32} {K : ms_S → Prop} : ms_wF (ms_x X t) 3 5 8 (.int x) K = K (ms_x (cx_ui X 3 8 x) t) := by
  unfold ms_wF ms_put; rw [ms_fld_of xo_3 (v := .int (cx_i X 3 8)) rfl, xo_3]
  show (True ∧ K ((ms_x X t).set 3 _)) = _
  rw [true_and, cx_set (X := X) (.inr (5, [.ref 1, .ref 4, .ref 5, .int (cx_i X 3 3), .int (cx_i X 3 4), .int (cx_i X 3 5), .int (cx_i X 3 6), .int (cx_i X 3 7), .int (cx_i X 3 8), .int (cx_i X 3 9)].set 8 (.int x))) (cx_ui X 3 8 x) rfl (Nat.le_of_ble_eq_true rfl)]
theorem xf_3_9 : ms_fldI (ms_x X t) 3 5 9 = some (cx_i X 3 9) := ms_fldI_of xo_3 rfl
theorem xp_3_9 {x : Int32} {K : ms_S → Prop} : ms_wF (ms_x X t) 3 5 9 (.int x) K = K (ms_x (cx_ui X 3 9 x) t) := by
  unfold ms_wF ms_put; rw [ms_fld_of xo_3 (v := .int (cx_i X 3 9)) rfl, xo_3]
  show (True ∧ K ((ms_x X t).set 3 _)) = _
  rw [true_and, cx_set (X := X) (.inr (5, [.ref 1, .ref 4, .ref 5, .int (cx_i X 3 3), .int (cx_i X 3 4), .int (cx_i X 3 5), .int (cx_i X 3 6), .int (cx_i X 3 7), .int (cx_i X 3 8), .int (cx_i X 3 9)].set 9 (.int x))) (cx_ui X 3 9 x) rfl (Nat.le_of_ble_eq_true rfl)]
theorem xe_4 : ms_arr (ms_x X t) 4 = some (0, 800, .inl (cx_a X 4)) := by unfold ms_arr; rw [cx_get (v := .inl (0, 800, .inl (cx_a X 4))) rfl]
theorem xr_4 {i : Int32} {K : Int32 → Prop} : ms_rI (ms_x X t) 4 0 i K = (vp_in i 800 ∧ K (cx_a X 4 i.toNatClampNeg)) := by
  unfold ms_rI; rw [xe_4]; rfl
theorem xw_4 {i : Int32} {x : Int32} {K : ms_S → Prop} : ms_wI (ms_x X t) 4 i x K = (vp_in i 800 ∧ K (ms_x (cx_ua X 4 i.toNatClampNeg x) t)) := by
  unfold ms_wI; rw [xe_4]
  show (_ ∧ K ((ms_x X t).set 4 _)) = _
  rw [cx_set (X := X) (.inl (0, 800, .inl (upd (cx_a X 4) i.toNatClampNeg x))) (cx_ua X 4 i.toNatClampNeg x) rfl (Nat.le_of_ble_eq_true rfl)]
theorem xe_5 : ms_arr (ms_x X t) 5 = some (0, 48, .inl (cx_a X 5)) := by unfold ms_arr; rw [cx_get (v := .inl (0, 48, .inl (cx_a X 5))) rfl]
theorem xr_5 {i : Int32} {K : Int32 → Prop} : ms_rI (ms_x X t) 5 0 i K = (vp_in i 48 ∧ K (cx_a X 5 i.toNatClampNeg)) := by
  unfold ms_rI; rw [xe_5]; rfl
theorem xw_5 {i : Int32} {x : Int32} {K : ms_S → Prop} : ms_wI (ms_x X t) 5 i x K = (vp_in i 48 ∧ K (ms_x (cx_ua X 5 i.toNatClampNeg x) t)) := by
  unfold ms_wI; rw [xe_5]
  show (_ ∧ K ((ms_x X t).set 5 _)) = _
  rw [cx_set (X := X) (.inl (0, 48, .inl (upd (cx_a X 5) i.toNatClampNeg x))) (cx_ua X 5 i.toNatClampNeg x) rfl (Nat.le_of_ble_eq_true rfl)]
theorem xb_6 (w : bk_w (cx_b X 6)) : bk (ms_x X t) 6 (cx_b X 6) := ⟨cx_get rfl, cx_get rfl, cx_get rfl, cx_get rfl, cx_get rfl, cx_get rfl, w.1, w.2.1, w.2.2.1, w.2.2.2⟩
theorem xf_6_5 : ms_fldI (ms_x X t) 6 0 5 = some (nI (bk_tc (cx_b X 6))) := ms_fldI_of (cx_get rfl) rfl
theorem xf_6_6 : ms_fldI (ms_x X t) 6 0 6 = some (nI (bk_pc (cx_b X 6))) := ms_fldI_of (cx_get rfl) rfl
theorem xf_6_7 : ms_fldI (ms_x X t) 6 0 7 = some (nI (bk_ec (cx_b X 6))) := ms_fldI_of (cx_get rfl) rfl
theorem xf_6_8 : ms_fldI (ms_x X t) 6 0 8 = some (nI (bk_xc (cx_b X 6))) := ms_fldI_of (cx_get rfl) rfl
theorem xm_6 {y : Nat} {as : List Value} {r : Option Value} {B : bk_T} (k : ∀ h t : ms_S, ms_Cl d y (.ref h.length :: as) (ms_b h (cx_b X 6) t) r (ms_b h B t)) : ms_Cl d y (.ref 6 :: as) (ms_x X t) r (ms_x (cx_ub X 6 B) t) := k ((cx_c X).take 6) ((cx_c X).drop 12 ++ t)
theorem xo_12 : (ms_x X t)[12]? = some (.inr (2, [.ref 13, .ref 14, .long (cx_g X)])) := cx_get rfl
theorem xf_12_0 : ms_fldR (ms_x X t) 12 2 0 = some 13 := ms_fldR_of xo_12 rfl
theorem xf_12_1 : ms_fldR (ms_x X t) 12 2 1 = some 14 := ms_fldR_of xo_12 rfl
theorem xe_13 : ms_arr (ms_x X t) 13 = some (0, 12, .inl (cx_a X 13)) := by unfold ms_arr; rw [cx_get (v := .inl (0, 12, .inl (cx_a X 13))) rfl]
theorem xr_13 {i : Int32} {K : Int32 → Prop} : ms_rI (ms_x X t) 13 0 i K = (vp_in i 12 ∧ K (cx_a X 13 i.toNatClampNeg)) := by
  unfold ms_rI; rw [xe_13]; rfl
theorem xw_13 {i : Int32} {x : Int32} {K : ms_S → Prop} : ms_wI (ms_x X t) 13 i x K = (vp_in i 12 ∧ K (ms_x (cx_ua X 13 i.toNatClampNeg x) t)) := by
  unfold ms_wI; rw [xe_13]
  show (_ ∧ K ((ms_x X t).set 13 _)) = _
  rw [cx_set (X := X) (.inl (0, 12, .inl (upd (cx_a X 13) i.toNatClampNeg x))) (cx_ua X 13 i.toNatClampNeg x) rfl (Nat.le_of_ble_eq_true rfl)]
theorem xo_15 : (ms_x X t)[15]? = some (.inr (1, [.ref 12, va_rf (cx_o X), .int (cx_i X 15 2), .int (cx_i X 15 3), .int (cx_i X 15 4), .ref 16, .ref 17, .ref 18, .ref 19, .ref 20, .ref 21, .ref 22, .ref 23, .int (cx_i X 15 13), .int (cx_i X 15 14)])) := cx_get rfl
theorem xf_15_0 : ms_fldR (ms_x X t) 15 1 0 = some 12 := ms_fldR_of xo_15 rfl
theorem xf_15_2 : ms_fldI (ms_x X t) 15 1 2 = some (cx_i X 15 2) := ms_fldI_of xo_15 rfl
theorem xp_15_2 {x : Int32} {K : ms_S → Prop} : ms_wF (ms_x X t) 15 1 2 (.int x) K = K (ms_x (cx_ui X 15 2 x) t) := by
  unfold ms_wF ms_put; rw [ms_fld_of xo_15 (v := .int (cx_i X 15 2)) rfl, xo_15]
  show (True ∧ K ((ms_x X t).set 15 _)) = _
  rw [true_and, cx_set (X := X) (.inr (1, [.ref 12, va_rf (cx_o X), .int (cx_i X 15 2), .int (cx_i X 15 3), .int (cx_i X 15 4), .ref 16, .ref 17, .ref 18, .ref 19, .ref 20, .ref 21, .ref 22, .ref 23, .int (cx_i X 15 13), .int (cx_i X 15 14)].set 2 (.int x))) (cx_ui X 15 2 x) rfl (Nat.le_of_ble_eq_true rfl)]
theorem xf_15_3 : ms_fldI (ms_x X t) 15 1 3 = some (cx_i X 15 3) := ms_fldI_of xo_15 rfl
theorem xp_15_3 {x : Int32} {K : ms_S → Prop} : ms_wF (ms_x X t) 15 1 3 (.int x) K = K (ms_x (cx_ui X 15 3 x) t) := by
  unfold ms_wF ms_put; rw [ms_fld_of xo_15 (v := .int (cx_i X 15 3)) rfl, xo_15]
  show (True ∧ K ((ms_x X t).set 15 _)) = _
  rw [true_and, cx_set (X := X) (.inr (1, [.ref 12, va_rf (cx_o X), .int (cx_i X 15 2), .int (cx_i X 15 3), .int (cx_i X 15 4), .ref 16, .ref 17, .ref 18, .ref 19, .ref 20, .ref 21, .ref 22, .ref 23, .int (cx_i X 15 13), .int (cx_i X 15 14)].set 3 (.int x))) (cx_ui X 15 3 x) rfl (Nat.le_of_ble_eq_true rfl)]
theorem xf_15_4 : ms_fldI (ms_x X t) 15 1 4 = some (cx_i X 15 4) := ms_fldI_of xo_15 rfl
theorem xp_15_4 {x : Int32} {K : ms_S → Prop} : ms_wF (ms_x X t) 15 1 4 (.int x) K = K (ms_x (cx_ui X 15 4 x) t) := by
  unfold ms_wF ms_put; rw [ms_fld_of xo_15 (v := .int (cx_i X 15 4)) rfl, xo_15]
  show (True ∧ K ((ms_x X t).set 15 _)) = _
  rw [true_and, cx_set (X := X) (.inr (1, [.ref 12, va_rf (cx_o X), .int (cx_i X 15 2), .int (cx_i X 15 3), .int (cx_i X 15 4), .ref 16, .ref 17, .ref 18, .ref 19, .ref 20, .ref 21, .ref 22, .ref 23, .int (cx_i X 15 13), .int (cx_i X 15 14)].set 4 (.int x))) (cx_ui X 15 4 x) rfl (Nat.le_of_ble_eq_true rfl)]
theorem xf_15_5 : ms_fldR (ms_x X t) 15 1 5 = some 16 := ms_fldR_of xo_15 rfl
theorem xf_15_6 : ms_fldR (ms_x X t) 15 1 6 = some 17 := ms_fldR_of xo_15 rfl
theorem xf_15_7 : ms_fldR (ms_x X t) 15 1 7 = some 18 := ms_fldR_of xo_15 rfl
theorem xf_15_8 : ms_fldR (ms_x X t) 15 1 8 = some 19 := ms_fldR_of xo_15 rfl
theorem xf_15_9 : ms_fldR (ms_x X t) 15 1 9 = some 20 := ms_fldR_of xo_15 rfl
theorem xf_15_10 : ms_fldR (ms_x X t) 15 1 10 = some 21 := ms_fldR_of xo_15 rfl
theorem xf_15_11 : ms_fldR (ms_x X t) 15 1 11 = some 22 := ms_fldR_of xo_15 rfl
theorem xf_15_12 : ms_fldR (ms_x X t) 15 1 12 = some 23 := ms_fldR_of xo_15 rfl
theorem xf_15_13 : ms_fldI (ms_x X t) 15 1 13 = some (cx_i X 15 13) := ms_fldI_of xo_15 rfl
theorem xp_15_13 {x : Int32} {K : ms_S → Prop} : ms_wF (ms_x X t) 15 1 13 (.int x) K = K (ms_x (cx_ui X 15 13 x) t) := by
  unfold ms_wF ms_put; rw [ms_fld_of xo_15 (v := .int (cx_i X 15 13)) rfl, xo_15]
  show (True ∧ K ((ms_x X t).set 15 _)) = _
  rw [true_and, cx_set (X := X) (.inr (1, [.ref 12, va_rf (cx_o X), .int (cx_i X 15 2), .int (cx_i X 15 3), .int (cx_i X 15 4), .ref 16, .ref 17, .ref 18, .ref 19, .ref 20, .ref 21, .ref 22, .ref 23, .int (cx_i X 15 13), .int (cx_i X 15 14)].set 13 (.int x))) (cx_ui X 15 13 x) rfl (Nat.le_of_ble_eq_true rfl)]
theorem xf_15_14 : ms_fldI (ms_x X t) 15 1 14 = some (cx_i X 15 14) := ms_fldI_of xo_15 rfl
theorem xp_15_14 {x : Int32} {K : ms_S → Prop} : ms_wF (ms_x X t) 15 1 14 (.int x) K = K (ms_x (cx_ui X 15 14 x) t) := by
  unfold ms_wF ms_put; rw [ms_fld_of xo_15 (v := .int (cx_i X 15 14)) rfl, xo_15]
  show (True ∧ K ((ms_x X t).set 15 _)) = _
  rw [true_and, cx_set (X := X) (.inr (1, [.ref 12, va_rf (cx_o X), .int (cx_i X 15 2), .int (cx_i X 15 3), .int (cx_i X 15 4), .ref 16, .ref 17, .ref 18, .ref 19, .ref 20, .ref 21, .ref 22, .ref 23, .int (cx_i X 15 13), .int (cx_i X 15 14)].set 14 (.int x))) (cx_ui X 15 14 x) rfl (Nat.le_of_ble_eq_true rfl)]
theorem xe_16 : ms_arr (ms_x X t) 16 = some (0, 9, .inl (cx_a X 16)) := by unfold ms_arr; rw [cx_get (v := .inl (0, 9, .inl (cx_a X 16))) rfl]
theorem xr_16 {i : Int32} {K : Int32 → Prop} : ms_rI (ms_x X t) 16 0 i K = (vp_in i 9 ∧ K (cx_a X 16 i.toNatClampNeg)) := by
  unfold ms_rI; rw [xe_16]; rfl
theorem xw_16 {i : Int32} {x : Int32} {K : ms_S → Prop} : ms_wI (ms_x X t) 16 i x K = (vp_in i 9 ∧ K (ms_x (cx_ua X 16 i.toNatClampNeg x) t)) := by
  unfold ms_wI; rw [xe_16]
  show (_ ∧ K ((ms_x X t).set 16 _)) = _
  rw [cx_set (X := X) (.inl (0, 9, .inl (upd (cx_a X 16) i.toNatClampNeg x))) (cx_ua X 16 i.toNatClampNeg x) rfl (Nat.le_of_ble_eq_true rfl)]
theorem xe_17 : ms_arr (ms_x X t) 17 = some (0, 12, .inl (cx_a X 17)) := by unfold ms_arr; rw [cx_get (v := .inl (0, 12, .inl (cx_a X 17))) rfl]
theorem xr_17 {i : Int32} {K : Int32 → Prop} : ms_rI (ms_x X t) 17 0 i K = (vp_in i 12 ∧ K (cx_a X 17 i.toNatClampNeg)) := by
  unfold ms_rI; rw [xe_17]; rfl
theorem xw_17 {i : Int32} {x : Int32} {K : ms_S → Prop} : ms_wI (ms_x X t) 17 i x K = (vp_in i 12 ∧ K (ms_x (cx_ua X 17 i.toNatClampNeg x) t)) := by
  unfold ms_wI; rw [xe_17]
  show (_ ∧ K ((ms_x X t).set 17 _)) = _
  rw [cx_set (X := X) (.inl (0, 12, .inl (upd (cx_a X 17) i.toNatClampNeg x))) (cx_ua X 17 i.toNatClampNeg x) rfl (Nat.le_of_ble_eq_true rfl)]
theorem xe_18 : ms_arr (ms_x X t) 18 = some (2, 12, .inl (cx_a X 18)) := by unfold ms_arr; rw [cx_get (v := .inl (2, 12, .inl (cx_a X 18))) rfl]
theorem xr_18 {i : Int32} {K : Int32 → Prop} : ms_rI (ms_x X t) 18 2 i K = (vp_in i 12 ∧ K (cx_a X 18 i.toNatClampNeg)) := by
  unfold ms_rI; rw [xe_18]; rfl
theorem xw_18 {i : Int32} {x : Int32} {K : ms_S → Prop} : ms_wB (ms_x X t) 18 i x K = (vp_in i 12 ∧ (x = 0 ∨ x = 1) ∧ K (ms_x (cx_ua X 18 i.toNatClampNeg x) t)) := by
  unfold ms_wB; rw [xe_18]
  show (_ ∧ _ ∧ K ((ms_x X t).set 18 _)) = _
  rw [cx_set (X := X) (.inl (2, 12, .inl (upd (cx_a X 18) i.toNatClampNeg x))) (cx_ua X 18 i.toNatClampNeg x) rfl (Nat.le_of_ble_eq_true rfl)]
theorem xe_19 : ms_arr (ms_x X t) 19 = some (0, 108, .inl (cx_a X 19)) := by unfold ms_arr; rw [cx_get (v := .inl (0, 108, .inl (cx_a X 19))) rfl]
theorem xr_19 {i : Int32} {K : Int32 → Prop} : ms_rI (ms_x X t) 19 0 i K = (vp_in i 108 ∧ K (cx_a X 19 i.toNatClampNeg)) := by
  unfold ms_rI; rw [xe_19]; rfl
theorem xw_19 {i : Int32} {x : Int32} {K : ms_S → Prop} : ms_wI (ms_x X t) 19 i x K = (vp_in i 108 ∧ K (ms_x (cx_ua X 19 i.toNatClampNeg x) t)) := by
  unfold ms_wI; rw [xe_19]
  show (_ ∧ K ((ms_x X t).set 19 _)) = _
  rw [cx_set (X := X) (.inl (0, 108, .inl (upd (cx_a X 19) i.toNatClampNeg x))) (cx_ua X 19 i.toNatClampNeg x) rfl (Nat.le_of_ble_eq_true rfl)]
theorem xe_20 : ms_arr (ms_x X t) 20 = some (0, 108, .inl (cx_a X 20)) := by unfold ms_arr; rw [cx_get (v := .inl (0, 108, .inl (cx_a X 20))) rfl]
theorem xr_20 {i : Int32} {K : Int32 → Prop} : ms_rI (ms_x X t) 20 0 i K = (vp_in i 108 ∧ K (cx_a X 20 i.toNatClampNeg)) := by
  unfold ms_rI; rw [xe_20]; rfl
theorem xw_20 {i : Int32} {x : Int32} {K : ms_S → Prop} : ms_wI (ms_x X t) 20 i x K = (vp_in i 108 ∧ K (ms_x (cx_ua X 20 i.toNatClampNeg x) t)) := by
  unfold ms_wI; rw [xe_20]
  show (_ ∧ K ((ms_x X t).set 20 _)) = _
  rw [cx_set (X := X) (.inl (0, 108, .inl (upd (cx_a X 20) i.toNatClampNeg x))) (cx_ua X 20 i.toNatClampNeg x) rfl (Nat.le_of_ble_eq_true rfl)]
theorem xe_21 : ms_arr (ms_x X t) 21 = some (0, 120, .inl (cx_a X 21)) := by unfold ms_arr; rw [cx_get (v := .inl (0, 120, .inl (cx_a X 21))) rfl]
theorem xr_21 {i : Int32} {K : Int32 → Prop} : ms_rI (ms_x X t) 21 0 i K = (vp_in i 120 ∧ K (cx_a X 21 i.toNatClampNeg)) := by
  unfold ms_rI; rw [xe_21]; rfl
theorem xw_21 {i : Int32} {x : Int32} {K : ms_S → Prop} : ms_wI (ms_x X t) 21 i x K = (vp_in i 120 ∧ K (ms_x (cx_ua X 21 i.toNatClampNeg x) t)) := by
  unfold ms_wI; rw [xe_21]
  show (_ ∧ K ((ms_x X t).set 21 _)) = _
  rw [cx_set (X := X) (.inl (0, 120, .inl (upd (cx_a X 21) i.toNatClampNeg x))) (cx_ua X 21 i.toNatClampNeg x) rfl (Nat.le_of_ble_eq_true rfl)]
theorem xe_22 : ms_arr (ms_x X t) 22 = some (0, 10, .inl (cx_a X 22)) := by unfold ms_arr; rw [cx_get (v := .inl (0, 10, .inl (cx_a X 22))) rfl]
theorem xr_22 {i : Int32} {K : Int32 → Prop} : ms_rI (ms_x X t) 22 0 i K = (vp_in i 10 ∧ K (cx_a X 22 i.toNatClampNeg)) := by
  unfold ms_rI; rw [xe_22]; rfl
theorem xw_22 {i : Int32} {x : Int32} {K : ms_S → Prop} : ms_wI (ms_x X t) 22 i x K = (vp_in i 10 ∧ K (ms_x (cx_ua X 22 i.toNatClampNeg x) t)) := by
  unfold ms_wI; rw [xe_22]
  show (_ ∧ K ((ms_x X t).set 22 _)) = _
  rw [cx_set (X := X) (.inl (0, 10, .inl (upd (cx_a X 22) i.toNatClampNeg x))) (cx_ua X 22 i.toNatClampNeg x) rfl (Nat.le_of_ble_eq_true rfl)]
theorem xe_23 : ms_arr (ms_x X t) 23 = some (0, 12, .inl (cx_a X 23)) := by unfold ms_arr; rw [cx_get (v := .inl (0, 12, .inl (cx_a X 23))) rfl]
theorem xr_23 {i : Int32} {K : Int32 → Prop} : ms_rI (ms_x X t) 23 0 i K = (vp_in i 12 ∧ K (cx_a X 23 i.toNatClampNeg)) := by
  unfold ms_rI; rw [xe_23]; rfl
theorem xw_23 {i : Int32} {x : Int32} {K : ms_S → Prop} : ms_wI (ms_x X t) 23 i x K = (vp_in i 12 ∧ K (ms_x (cx_ua X 23 i.toNatClampNeg x) t)) := by
  unfold ms_wI; rw [xe_23]
  show (_ ∧ K ((ms_x X t).set 23 _)) = _
  rw [cx_set (X := X) (.inl (0, 12, .inl (upd (cx_a X 23) i.toNatClampNeg x))) (cx_ua X 23 i.toNatClampNeg x) rfl (Nat.le_of_ble_eq_true rfl)]
theorem xo_24 : (ms_x X t)[24]? = some (.inr (3, [.ref 6, .ref 12, .ref 15, .ref 25, .ref 26, .ref 27, .ref 28, .ref 29, .ref 30, .ref 31, .ref 32])) := cx_get rfl
theorem xf_24_0 : ms_fldR (ms_x X t) 24 3 0 = some 6 := ms_fldR_of xo_24 rfl
theorem xf_24_1 : ms_fldR (ms_x X t) 24 3 1 = some 12 := ms_fldR_of xo_24 rfl
theorem xf_24_2 : ms_fldR (ms_x X t) 24 3 2 = some 15 := ms_fldR_of xo_24 rfl
theorem xf_24_3 : ms_fldR (ms_x X t) 24 3 3 = some 25 := ms_fldR_of xo_24 rfl
theorem xf_24_4 : ms_fldR (ms_x X t) 24 3 4 = some 26 := ms_fldR_of xo_24 rfl
theorem xf_24_5 : ms_fldR (ms_x X t) 24 3 5 = some 27 := ms_fldR_of xo_24 rfl
theorem xf_24_6 : ms_fldR (ms_x X t) 24 3 6 = some 28 := ms_fldR_of xo_24 rfl
theorem xf_24_7 : ms_fldR (ms_x X t) 24 3 7 = some 29 := ms_fldR_of xo_24 rfl
theorem xf_24_8 : ms_fldR (ms_x X t) 24 3 8 = some 30 := ms_fldR_of xo_24 rfl
theorem xf_24_9 : ms_fldR (ms_x X t) 24 3 9 = some 31 := ms_fldR_of xo_24 rfl
theorem xf_24_10 : ms_fldR (ms_x X t) 24 3 10 = some 32 := ms_fldR_of xo_24 rfl
theorem xe_25 : ms_arr (ms_x X t) 25 = some (0, 16, .inl (cx_a X 25)) := by unfold ms_arr; rw [cx_get (v := .inl (0, 16, .inl (cx_a X 25))) rfl]
theorem xr_25 {i : Int32} {K : Int32 → Prop} : ms_rI (ms_x X t) 25 0 i K = (vp_in i 16 ∧ K (cx_a X 25 i.toNatClampNeg)) := by
  unfold ms_rI; rw [xe_25]; rfl
theorem xw_25 {i : Int32} {x : Int32} {K : ms_S → Prop} : ms_wI (ms_x X t) 25 i x K = (vp_in i 16 ∧ K (ms_x (cx_ua X 25 i.toNatClampNeg x) t)) := by
  unfold ms_wI; rw [xe_25]
  show (_ ∧ K ((ms_x X t).set 25 _)) = _
  rw [cx_set (X := X) (.inl (0, 16, .inl (upd (cx_a X 25) i.toNatClampNeg x))) (cx_ua X 25 i.toNatClampNeg x) rfl (Nat.le_of_ble_eq_true rfl)]
theorem xe_26 : ms_arr (ms_x X t) 26 = some (0, 16, .inl (cx_a X 26)) := by unfold ms_arr; rw [cx_get (v := .inl (0, 16, .inl (cx_a X 26))) rfl]
theorem xr_26 {i : Int32} {K : Int32 → Prop} : ms_rI (ms_x X t) 26 0 i K = (vp_in i 16 ∧ K (cx_a X 26 i.toNatClampNeg)) := by
  unfold ms_rI; rw [xe_26]; rfl
theorem xw_26 {i : Int32} {x : Int32} {K : ms_S → Prop} : ms_wI (ms_x X t) 26 i x K = (vp_in i 16 ∧ K (ms_x (cx_ua X 26 i.toNatClampNeg x) t)) := by
  unfold ms_wI; rw [xe_26]
  show (_ ∧ K ((ms_x X t).set 26 _)) = _
  rw [cx_set (X := X) (.inl (0, 16, .inl (upd (cx_a X 26) i.toNatClampNeg x))) (cx_ua X 26 i.toNatClampNeg x) rfl (Nat.le_of_ble_eq_true rfl)]
theorem xe_27 : ms_arr (ms_x X t) 27 = some (0, 16, .inl (cx_a X 27)) := by unfold ms_arr; rw [cx_get (v := .inl (0, 16, .inl (cx_a X 27))) rfl]
theorem xr_27 {i : Int32} {K : Int32 → Prop} : ms_rI (ms_x X t) 27 0 i K = (vp_in i 16 ∧ K (cx_a X 27 i.toNatClampNeg)) := by
  unfold ms_rI; rw [xe_27]; rfl
theorem xw_27 {i : Int32} {x : Int32} {K : ms_S → Prop} : ms_wI (ms_x X t) 27 i x K = (vp_in i 16 ∧ K (ms_x (cx_ua X 27 i.toNatClampNeg x) t)) := by
  unfold ms_wI; rw [xe_27]
  show (_ ∧ K ((ms_x X t).set 27 _)) = _
  rw [cx_set (X := X) (.inl (0, 16, .inl (upd (cx_a X 27) i.toNatClampNeg x))) (cx_ua X 27 i.toNatClampNeg x) rfl (Nat.le_of_ble_eq_true rfl)]
theorem xe_28 : ms_arr (ms_x X t) 28 = some (0, 16, .inl (cx_a X 28)) := by unfold ms_arr; rw [cx_get (v := .inl (0, 16, .inl (cx_a X 28))) rfl]
theorem xr_28 {i : Int32} {K : Int32 → Prop} : ms_rI (ms_x X t) 28 0 i K = (vp_in i 16 ∧ K (cx_a X 28 i.toNatClampNeg)) := by
  unfold ms_rI; rw [xe_28]; rfl
theorem xw_28 {i : Int32} {x : Int32} {K : ms_S → Prop} : ms_wI (ms_x X t) 28 i x K = (vp_in i 16 ∧ K (ms_x (cx_ua X 28 i.toNatClampNeg x) t)) := by
  unfold ms_wI; rw [xe_28]
  show (_ ∧ K ((ms_x X t).set 28 _)) = _
  rw [cx_set (X := X) (.inl (0, 16, .inl (upd (cx_a X 28) i.toNatClampNeg x))) (cx_ua X 28 i.toNatClampNeg x) rfl (Nat.le_of_ble_eq_true rfl)]
theorem xe_29 : ms_arr (ms_x X t) 29 = some (0, 16, .inl (cx_a X 29)) := by unfold ms_arr; rw [cx_get (v := .inl (0, 16, .inl (cx_a X 29))) rfl]
theorem xr_29 {i : Int32} {K : Int32 → Prop} : ms_rI (ms_x X t) 29 0 i K = (vp_in i 16 ∧ K (cx_a X 29 i.toNatClampNeg)) := by
  unfold ms_rI; rw [xe_29]; rfl
theorem xw_29 {i : Int32} {x : Int32} {K : ms_S → Prop} : ms_wI (ms_x X t) 29 i x K = (vp_in i 16 ∧ K (ms_x (cx_ua X 29 i.toNatClampNeg x) t)) := by
  unfold ms_wI; rw [xe_29]
  show (_ ∧ K ((ms_x X t).set 29 _)) = _
  rw [cx_set (X := X) (.inl (0, 16, .inl (upd (cx_a X 29) i.toNatClampNeg x))) (cx_ua X 29 i.toNatClampNeg x) rfl (Nat.le_of_ble_eq_true rfl)]
theorem xe_30 : ms_arr (ms_x X t) 30 = some (0, 120, .inl (cx_a X 30)) := by unfold ms_arr; rw [cx_get (v := .inl (0, 120, .inl (cx_a X 30))) rfl]
theorem xr_30 {i : Int32} {K : Int32 → Prop} : ms_rI (ms_x X t) 30 0 i K = (vp_in i 120 ∧ K (cx_a X 30 i.toNatClampNeg)) := by
  unfold ms_rI; rw [xe_30]; rfl
theorem xw_30 {i : Int32} {x : Int32} {K : ms_S → Prop} : ms_wI (ms_x X t) 30 i x K = (vp_in i 120 ∧ K (ms_x (cx_ua X 30 i.toNatClampNeg x) t)) := by
  unfold ms_wI; rw [xe_30]
  show (_ ∧ K ((ms_x X t).set 30 _)) = _
  rw [cx_set (X := X) (.inl (0, 120, .inl (upd (cx_a X 30) i.toNatClampNeg x))) (cx_ua X 30 i.toNatClampNeg x) rfl (Nat.le_of_ble_eq_true rfl)]
theorem xe_31 : ms_arr (ms_x X t) 31 = some (0, 208, .inl (cx_a X 31)) := by unfold ms_arr; rw [cx_get (v := .inl (0, 208, .inl (cx_a X 31))) rfl]
theorem xr_31 {i : Int32} {K : Int32 → Prop} : ms_rI (ms_x X t) 31 0 i K = (vp_in i 208 ∧ K (cx_a X 31 i.toNatClampNeg)) := by
  unfold ms_rI; rw [xe_31]; rfl
theorem xw_31 {i : Int32} {x : Int32} {K : ms_S → Prop} : ms_wI (ms_x X t) 31 i x K = (vp_in i 208 ∧ K (ms_x (cx_ua X 31 i.toNatClampNeg x) t)) := by
  unfold ms_wI; rw [xe_31]
  show (_ ∧ K ((ms_x X t).set 31 _)) = _
  rw [cx_set (X := X) (.inl (0, 208, .inl (upd (cx_a X 31) i.toNatClampNeg x))) (cx_ua X 31 i.toNatClampNeg x) rfl (Nat.le_of_ble_eq_true rfl)]
theorem xe_32 : ms_arr (ms_x X t) 32 = some (0, 121, .inl (cx_a X 32)) := by unfold ms_arr; rw [cx_get (v := .inl (0, 121, .inl (cx_a X 32))) rfl]
theorem xr_32 {i : Int32} {K : Int32 → Prop} : ms_rI (ms_x X t) 32 0 i K = (vp_in i 121 ∧ K (cx_a X 32 i.toNatClampNeg)) := by
  unfold ms_rI; rw [xe_32]; rfl
theorem xw_32 {i : Int32} {x : Int32} {K : ms_S → Prop} : ms_wI (ms_x X t) 32 i x K = (vp_in i 121 ∧ K (ms_x (cx_ua X 32 i.toNatClampNeg x) t)) := by
  unfold ms_wI; rw [xe_32]
  show (_ ∧ K ((ms_x X t).set 32 _)) = _
  rw [cx_set (X := X) (.inl (0, 121, .inl (upd (cx_a X 32) i.toNatClampNeg x))) (cx_ua X 32 i.toNatClampNeg x) rfl (Nat.le_of_ble_eq_true rfl)]
theorem xo_33 : (ms_x X t)[33]? = some (.inr (4, [.ref 34, .ref 40, .int (cx_i X 33 2), .int (cx_i X 33 3)])) := cx_get rfl
theorem xf_33_0 : ms_fldR (ms_x X t) 33 4 0 = some 34 := ms_fldR_of xo_33 rfl
theorem xf_33_1 : ms_fldR (ms_x X t) 33 4 1 = some 40 := ms_fldR_of xo_33 rfl
theorem xf_33_2 : ms_fldI (ms_x X t) 33 4 2 = some (cx_i X 33 2) := ms_fldI_of xo_33 rfl
theorem xp_33_2 {x : Int32} {K : ms_S → Prop} : ms_wF (ms_x X t) 33 4 2 (.int x) K = K (ms_x (cx_ui X 33 2 x) t) := by
  unfold ms_wF ms_put; rw [ms_fld_of xo_33 (v := .int (cx_i X 33 2)) rfl, xo_33]
  show (True ∧ K ((ms_x X t).set 33 _)) = _
  rw [true_and, cx_set (X := X) (.inr (4, [.ref 34, .ref 40, .int (cx_i X 33 2), .int (cx_i X 33 3)].set 2 (.int x))) (cx_ui X 33 2 x) rfl (Nat.le_of_ble_eq_true rfl)]
theorem xf_33_3 : ms_fldI (ms_x X t) 33 4 3 = some (cx_i X 33 3) := ms_fldI_of xo_33 rfl
theorem xp_33_3 {x : Int32} {K : ms_S → Prop} : ms_wF (ms_x X t) 33 4 3 (.int x) K = K (ms_x (cx_ui X 33 3 x) t) := by
  unfold ms_wF ms_put; rw [ms_fld_of xo_33 (v := .int (cx_i X 33 3)) rfl, xo_33]
  show (True ∧ K ((ms_x X t).set 33 _)) = _
  rw [true_and, cx_set (X := X) (.inr (4, [.ref 34, .ref 40, .int (cx_i X 33 2), .int (cx_i X 33 3)].set 3 (.int x))) (cx_ui X 33 3 x) rfl (Nat.le_of_ble_eq_true rfl)]
theorem xb_34 (w : bk_w (cx_b X 34)) : bk (ms_x X t) 34 (cx_b X 34) := ⟨cx_get rfl, cx_get rfl, cx_get rfl, cx_get rfl, cx_get rfl, cx_get rfl, w.1, w.2.1, w.2.2.1, w.2.2.2⟩
theorem xf_34_5 : ms_fldI (ms_x X t) 34 0 5 = some (nI (bk_tc (cx_b X 34))) := ms_fldI_of (cx_get rfl) rfl
theorem xf_34_6 : ms_fldI (ms_x X t) 34 0 6 = some (nI (bk_pc (cx_b X 34))) := ms_fldI_of (cx_get rfl) rfl
theorem xf_34_7 : ms_fldI (ms_x X t) 34 0 7 = some (nI (bk_ec (cx_b X 34))) := ms_fldI_of (cx_get rfl) rfl
theorem xf_34_8 : ms_fldI (ms_x X t) 34 0 8 = some (nI (bk_xc (cx_b X 34))) := ms_fldI_of (cx_get rfl) rfl
theorem xm_34 {y : Nat} {as : List Value} {r : Option Value} {B : bk_T} (k : ∀ h t : ms_S, ms_Cl d y (.ref h.length :: as) (ms_b h (cx_b X 34) t) r (ms_b h B t)) : ms_Cl d y (.ref 34 :: as) (ms_x X t) r (ms_x (cx_ub X 34 B) t) := k ((cx_c X).take 34) ((cx_c X).drop 40 ++ t)
theorem xe_40 : ms_arr (ms_x X t) 40 = some (0, 120, .inl (cx_a X 40)) := by unfold ms_arr; rw [cx_get (v := .inl (0, 120, .inl (cx_a X 40))) rfl]
theorem xr_40 {i : Int32} {K : Int32 → Prop} : ms_rI (ms_x X t) 40 0 i K = (vp_in i 120 ∧ K (cx_a X 40 i.toNatClampNeg)) := by
  unfold ms_rI; rw [xe_40]; rfl
theorem xw_40 {i : Int32} {x : Int32} {K : ms_S → Prop} : ms_wI (ms_x X t) 40 i x K = (vp_in i 120 ∧ K (ms_x (cx_ua X 40 i.toNatClampNeg x) t)) := by
  unfold ms_wI; rw [xe_40]
  show (_ ∧ K ((ms_x X t).set 40 _)) = _
  rw [cx_set (X := X) (.inl (0, 120, .inl (upd (cx_a X 40) i.toNatClampNeg x))) (cx_ua X 40 i.toNatClampNeg x) rfl (Nat.le_of_ble_eq_true rfl)]
theorem xo_41 : (ms_x X t)[41]? = some (.inr (3, [.ref 34, .ref 12, .ref 15, .ref 42, .ref 43, .ref 44, .ref 45, .ref 46, .ref 47, .ref 48, .ref 49])) := cx_get rfl
theorem xf_41_0 : ms_fldR (ms_x X t) 41 3 0 = some 34 := ms_fldR_of xo_41 rfl
theorem xf_41_1 : ms_fldR (ms_x X t) 41 3 1 = some 12 := ms_fldR_of xo_41 rfl
theorem xf_41_2 : ms_fldR (ms_x X t) 41 3 2 = some 15 := ms_fldR_of xo_41 rfl
theorem xf_41_3 : ms_fldR (ms_x X t) 41 3 3 = some 42 := ms_fldR_of xo_41 rfl
theorem xf_41_4 : ms_fldR (ms_x X t) 41 3 4 = some 43 := ms_fldR_of xo_41 rfl
theorem xf_41_5 : ms_fldR (ms_x X t) 41 3 5 = some 44 := ms_fldR_of xo_41 rfl
theorem xf_41_6 : ms_fldR (ms_x X t) 41 3 6 = some 45 := ms_fldR_of xo_41 rfl
theorem xf_41_7 : ms_fldR (ms_x X t) 41 3 7 = some 46 := ms_fldR_of xo_41 rfl
theorem xf_41_8 : ms_fldR (ms_x X t) 41 3 8 = some 47 := ms_fldR_of xo_41 rfl
theorem xf_41_9 : ms_fldR (ms_x X t) 41 3 9 = some 48 := ms_fldR_of xo_41 rfl
theorem xf_41_10 : ms_fldR (ms_x X t) 41 3 10 = some 49 := ms_fldR_of xo_41 rfl
theorem xe_42 : ms_arr (ms_x X t) 42 = some (0, 16, .inl (cx_a X 42)) := by unfold ms_arr; rw [cx_get (v := .inl (0, 16, .inl (cx_a X 42))) rfl]
theorem xr_42 {i : Int32} {K : Int32 → Prop} : ms_rI (ms_x X t) 42 0 i K = (vp_in i 16 ∧ K (cx_a X 42 i.toNatClampNeg)) := by
  unfold ms_rI; rw [xe_42]; rfl
theorem xw_42 {i : Int32} {x : Int32} {K : ms_S → Prop} : ms_wI (ms_x X t) 42 i x K = (vp_in i 16 ∧ K (ms_x (cx_ua X 42 i.toNatClampNeg x) t)) := by
  unfold ms_wI; rw [xe_42]
  show (_ ∧ K ((ms_x X t).set 42 _)) = _
  rw [cx_set (X := X) (.inl (0, 16, .inl (upd (cx_a X 42) i.toNatClampNeg x))) (cx_ua X 42 i.toNatClampNeg x) rfl (Nat.le_of_ble_eq_true rfl)]
theorem xe_43 : ms_arr (ms_x X t) 43 = some (0, 16, .inl (cx_a X 43)) := by unfold ms_arr; rw [cx_get (v := .inl (0, 16, .inl (cx_a X 43))) rfl]
theorem xr_43 {i : Int32} {K : Int32 → Prop} : ms_rI (ms_x X t) 43 0 i K = (vp_in i 16 ∧ K (cx_a X 43 i.toNatClampNeg)) := by
  unfold ms_rI; rw [xe_43]; rfl
theorem xw_43 {i : Int32} {x : Int32} {K : ms_S → Prop} : ms_wI (ms_x X t) 43 i x K = (vp_in i 16 ∧ K (ms_x (cx_ua X 43 i.toNatClampNeg x) t)) := by
  unfold ms_wI; rw [xe_43]
  show (_ ∧ K ((ms_x X t).set 43 _)) = _
  rw [cx_set (X := X) (.inl (0, 16, .inl (upd (cx_a X 43) i.toNatClampNeg x))) (cx_ua X 43 i.toNatClampNeg x) rfl (Nat.le_of_ble_eq_true rfl)]
theorem xe_44 : ms_arr (ms_x X t) 44 = some (0, 16, .inl (cx_a X 44)) := by unfold ms_arr; rw [cx_get (v := .inl (0, 16, .inl (cx_a X 44))) rfl]
theorem xr_44 {i : Int32} {K : Int32 → Prop} : ms_rI (ms_x X t) 44 0 i K = (vp_in i 16 ∧ K (cx_a X 44 i.toNatClampNeg)) := by
  unfold ms_rI; rw [xe_44]; rfl
theorem xw_44 {i : Int32} {x : Int32} {K : ms_S → Prop} : ms_wI (ms_x X t) 44 i x K = (vp_in i 16 ∧ K (ms_x (cx_ua X 44 i.toNatClampNeg x) t)) := by
  unfold ms_wI; rw [xe_44]
  show (_ ∧ K ((ms_x X t).set 44 _)) = _
  rw [cx_set (X := X) (.inl (0, 16, .inl (upd (cx_a X 44) i.toNatClampNeg x))) (cx_ua X 44 i.toNatClampNeg x) rfl (Nat.le_of_ble_eq_true rfl)]
theorem xe_45 : ms_arr (ms_x X t) 45 = some (0, 16, .inl (cx_a X 45)) := by unfold ms_arr; rw [cx_get (v := .inl (0, 16, .inl (cx_a X 45))) rfl]
theorem xr_45 {i : Int32} {K : Int32 → Prop} : ms_rI (ms_x X t) 45 0 i K = (vp_in i 16 ∧ K (cx_a X 45 i.toNatClampNeg)) := by
  unfold ms_rI; rw [xe_45]; rfl
theorem xw_45 {i : Int32} {x : Int32} {K : ms_S → Prop} : ms_wI (ms_x X t) 45 i x K = (vp_in i 16 ∧ K (ms_x (cx_ua X 45 i.toNatClampNeg x) t)) := by
  unfold ms_wI; rw [xe_45]
  show (_ ∧ K ((ms_x X t).set 45 _)) = _
  rw [cx_set (X := X) (.inl (0, 16, .inl (upd (cx_a X 45) i.toNatClampNeg x))) (cx_ua X 45 i.toNatClampNeg x) rfl (Nat.le_of_ble_eq_true rfl)]
theorem xe_46 : ms_arr (ms_x X t) 46 = some (0, 16, .inl (cx_a X 46)) := by unfold ms_arr; rw [cx_get (v := .inl (0, 16, .inl (cx_a X 46))) rfl]
theorem xr_46 {i : Int32} {K : Int32 → Prop} : ms_rI (ms_x X t) 46 0 i K = (vp_in i 16 ∧ K (cx_a X 46 i.toNatClampNeg)) := by
  unfold ms_rI; rw [xe_46]; rfl
theorem xw_46 {i : Int32} {x : Int32} {K : ms_S → Prop} : ms_wI (ms_x X t) 46 i x K = (vp_in i 16 ∧ K (ms_x (cx_ua X 46 i.toNatClampNeg x) t)) := by
  unfold ms_wI; rw [xe_46]
  show (_ ∧ K ((ms_x X t).set 46 _)) = _
  rw [cx_set (X := X) (.inl (0, 16, .inl (upd (cx_a X 46) i.toNatClampNeg x))) (cx_ua X 46 i.toNatClampNeg x) rfl (Nat.le_of_ble_eq_true rfl)]
theorem xe_47 : ms_arr (ms_x X t) 47 = some (0, 120, .inl (cx_a X 47)) := by unfold ms_arr; rw [cx_get (v := .inl (0, 120, .inl (cx_a X 47))) rfl]
theorem xr_47 {i : Int32} {K : Int32 → Prop} : ms_rI (ms_x X t) 47 0 i K = (vp_in i 120 ∧ K (cx_a X 47 i.toNatClampNeg)) := by
  unfold ms_rI; rw [xe_47]; rfl
theorem xw_47 {i : Int32} {x : Int32} {K : ms_S → Prop} : ms_wI (ms_x X t) 47 i x K = (vp_in i 120 ∧ K (ms_x (cx_ua X 47 i.toNatClampNeg x) t)) := by
  unfold ms_wI; rw [xe_47]
  show (_ ∧ K ((ms_x X t).set 47 _)) = _
  rw [cx_set (X := X) (.inl (0, 120, .inl (upd (cx_a X 47) i.toNatClampNeg x))) (cx_ua X 47 i.toNatClampNeg x) rfl (Nat.le_of_ble_eq_true rfl)]
theorem xe_48 : ms_arr (ms_x X t) 48 = some (0, 208, .inl (cx_a X 48)) := by unfold ms_arr; rw [cx_get (v := .inl (0, 208, .inl (cx_a X 48))) rfl]
theorem xr_48 {i : Int32} {K : Int32 → Prop} : ms_rI (ms_x X t) 48 0 i K = (vp_in i 208 ∧ K (cx_a X 48 i.toNatClampNeg)) := by
  unfold ms_rI; rw [xe_48]; rfl
theorem xw_48 {i : Int32} {x : Int32} {K : ms_S → Prop} : ms_wI (ms_x X t) 48 i x K = (vp_in i 208 ∧ K (ms_x (cx_ua X 48 i.toNatClampNeg x) t)) := by
  unfold ms_wI; rw [xe_48]
  show (_ ∧ K ((ms_x X t).set 48 _)) = _
  rw [cx_set (X := X) (.inl (0, 208, .inl (upd (cx_a X 48) i.toNatClampNeg x))) (cx_ua X 48 i.toNatClampNeg x) rfl (Nat.le_of_ble_eq_true rfl)]
theorem xe_49 : ms_arr (ms_x X t) 49 = some (0, 121, .inl (cx_a X 49)) := by unfold ms_arr; rw [cx_get (v := .inl (0, 121, .inl (cx_a X 49))) rfl]
theorem xr_49 {i : Int32} {K : Int32 → Prop} : ms_rI (ms_x X t) 49 0 i K = (vp_in i 121 ∧ K (cx_a X 49 i.toNatClampNeg)) := by
  unfold ms_rI; rw [xe_49]; rfl
theorem xw_49 {i : Int32} {x : Int32} {K : ms_S → Prop} : ms_wI (ms_x X t) 49 i x K = (vp_in i 121 ∧ K (ms_x (cx_ua X 49 i.toNatClampNeg x) t)) := by
  unfold ms_wI; rw [xe_49]
  show (_ ∧ K ((ms_x X t).set 49 _)) = _
  rw [cx_set (X := X) (.inl (0, 121, .inl (upd (cx_a X 49) i.toNatClampNeg x))) (cx_ua X 49 i.toNatClampNeg x) rfl (Nat.le_of_ble_eq_true rfl)]
theorem xb_51 (w : bk_w (cx_b X 51)) : bk (ms_x X t) 51 (cx_b X 51) := ⟨cx_get rfl, cx_get rfl, cx_get rfl, cx_get rfl, cx_get rfl, cx_get rfl, w.1, w.2.1, w.2.2.1, w.2.2.2⟩
theorem xf_51_5 : ms_fldI (ms_x X t) 51 0 5 = some (nI (bk_tc (cx_b X 51))) := ms_fldI_of (cx_get rfl) rfl
theorem xf_51_6 : ms_fldI (ms_x X t) 51 0 6 = some (nI (bk_pc (cx_b X 51))) := ms_fldI_of (cx_get rfl) rfl
theorem xf_51_7 : ms_fldI (ms_x X t) 51 0 7 = some (nI (bk_ec (cx_b X 51))) := ms_fldI_of (cx_get rfl) rfl
theorem xf_51_8 : ms_fldI (ms_x X t) 51 0 8 = some (nI (bk_xc (cx_b X 51))) := ms_fldI_of (cx_get rfl) rfl
theorem xm_51 {y : Nat} {as : List Value} {r : Option Value} {B : bk_T} (k : ∀ h t : ms_S, ms_Cl d y (.ref h.length :: as) (ms_b h (cx_b X 51) t) r (ms_b h B t)) : ms_Cl d y (.ref 51 :: as) (ms_x X t) r (ms_x (cx_ub X 51 B) t) := k ((cx_c X).take 51) ((cx_c X).drop 57 ++ t)
theorem xb_57 (w : bk_w (cx_b X 57)) : bk (ms_x X t) 57 (cx_b X 57) := ⟨cx_get rfl, cx_get rfl, cx_get rfl, cx_get rfl, cx_get rfl, cx_get rfl, w.1, w.2.1, w.2.2.1, w.2.2.2⟩
theorem xf_57_5 : ms_fldI (ms_x X t) 57 0 5 = some (nI (bk_tc (cx_b X 57))) := ms_fldI_of (cx_get rfl) rfl
theorem xf_57_6 : ms_fldI (ms_x X t) 57 0 6 = some (nI (bk_pc (cx_b X 57))) := ms_fldI_of (cx_get rfl) rfl
theorem xf_57_7 : ms_fldI (ms_x X t) 57 0 7 = some (nI (bk_ec (cx_b X 57))) := ms_fldI_of (cx_get rfl) rfl
theorem xf_57_8 : ms_fldI (ms_x X t) 57 0 8 = some (nI (bk_xc (cx_b X 57))) := ms_fldI_of (cx_get rfl) rfl
theorem xm_57 {y : Nat} {as : List Value} {r : Option Value} {B : bk_T} (k : ∀ h t : ms_S, ms_Cl d y (.ref h.length :: as) (ms_b h (cx_b X 57) t) r (ms_b h B t)) : ms_Cl d y (.ref 57 :: as) (ms_x X t) r (ms_x (cx_ub X 57 B) t) := k ((cx_c X).take 57) ((cx_c X).drop 63 ++ t)
theorem xe_63 : ms_arr (ms_x X t) 63 = some (2, 2, .inl (cx_a X 63)) := by unfold ms_arr; rw [cx_get (v := .inl (2, 2, .inl (cx_a X 63))) rfl]
theorem xr_63 {i : Int32} {K : Int32 → Prop} : ms_rI (ms_x X t) 63 2 i K = (vp_in i 2 ∧ K (cx_a X 63 i.toNatClampNeg)) := by
  unfold ms_rI; rw [xe_63]; rfl
theorem xw_63 {i : Int32} {x : Int32} {K : ms_S → Prop} : ms_wB (ms_x X t) 63 i x K = (vp_in i 2 ∧ (x = 0 ∨ x = 1) ∧ K (ms_x (cx_ua X 63 i.toNatClampNeg x) t)) := by
  unfold ms_wB; rw [xe_63]
  show (_ ∧ _ ∧ K ((ms_x X t).set 63 _)) = _
  rw [cx_set (X := X) (.inl (2, 2, .inl (upd (cx_a X 63) i.toNatClampNeg x))) (cx_ua X 63 i.toNatClampNeg x) rfl (Nat.le_of_ble_eq_true rfl)]
theorem xe_64 : ms_arr (ms_x X t) 64 = some (0, 5, .inl (cx_a X 64)) := by unfold ms_arr; rw [cx_get (v := .inl (0, 5, .inl (cx_a X 64))) rfl]
theorem xr_64 {i : Int32} {K : Int32 → Prop} : ms_rI (ms_x X t) 64 0 i K = (vp_in i 5 ∧ K (cx_a X 64 i.toNatClampNeg)) := by
  unfold ms_rI; rw [xe_64]; rfl
theorem xw_64 {i : Int32} {x : Int32} {K : ms_S → Prop} : ms_wI (ms_x X t) 64 i x K = (vp_in i 5 ∧ K (ms_x (cx_ua X 64 i.toNatClampNeg x) t)) := by
  unfold ms_wI; rw [xe_64]
  show (_ ∧ K ((ms_x X t).set 64 _)) = _
  rw [cx_set (X := X) (.inl (0, 5, .inl (upd (cx_a X 64) i.toNatClampNeg x))) (cx_ua X 64 i.toNatClampNeg x) rfl (Nat.le_of_ble_eq_true rfl)]
end Cx
