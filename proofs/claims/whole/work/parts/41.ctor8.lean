/-! CONTRACTS: the constructors of Leasts, Maker, SlipTrees: written by wip/whole/ctor8.py -/
theorem ms_sk (h t : ms_S) (k : Nat) (c : ms_C) : (h ++ t).set (h.length + k) c = h ++ t.set k c := by
  rw [List.set_append_right _ _ (by omega)]
  congr 2
  omega
theorem ms_nO_i {g : ms_S} {ci : Nat} {k : Nat → ms_S → Prop} (h : k g.length (g ++ [.inr (ci, ms_blank ci)])) : ms_nO g ci k := h
set_option maxRecDepth 4000 in
theorem c_Leasts_init {d : Nat} {h : ms_S} {b l c : Nat} : ms_Cl (d + 2) 50 [.ref h.length, .ref b, .ref l, .ref c] (h ++ [.inr (3, ms_blank 3)]) none (h ++ ct_le h.length b l c) := by
  refine m_X3_init (ms_llen (Nat.le_of_ble_eq_true rfl)) (ms_ltot (Nat.le_of_ble_eq_true rfl)) ?_
  refine b_X3_init_0 (ms_ctI (by decide) (by decide) (Nat.le_of_ble_eq_true rfl) (fun _ => trivial) ?_)
  refine b_X3_init_12 (ms_ctI (by decide) (by decide) (Nat.le_of_ble_eq_true rfl) (fun _ => trivial) ?_)
  refine b_X3_init_20 (ms_ctI (by decide) (by decide) (Nat.le_of_ble_eq_true rfl) (fun _ => trivial) ?_)
  refine b_X3_init_28 (ms_ctI (by decide) (by decide) (Nat.le_of_ble_eq_true rfl) (fun _ => trivial) ?_)
  refine b_X3_init_36 (ms_ctI (by decide) (by decide) (Nat.le_of_ble_eq_true rfl) (fun _ => trivial) ?_)
  refine b_X3_init_44 (ms_ctI (by decide) (by decide) (Nat.le_of_ble_eq_true rfl) (fun _ => trivial) ?_)
  refine b_X3_init_52 (ms_ctI (by decide) (by decide) (Nat.le_of_ble_eq_true rfl) (fun _ => trivial) ?_)
  refine b_X3_init_61 (ms_ctI (by decide) (by decide) (Nat.le_of_ble_eq_true rfl) (fun _ => trivial) ?_)
  refine b_X3_init_69 (ms_ctW (Nat.le_of_ble_eq_true rfl) trivial (ms_ctW (Nat.le_of_ble_eq_true rfl) trivial (ms_ctW (Nat.le_of_ble_eq_true rfl) trivial ?_)))
  refine ms_oR_i (x := h.length + 1) (ms_fldR_of (ms_g0 h _) rfl) ?_
  refine ⟨_, c_fill (n := 16) (f := ms_z) (ms_ga h _ 1) (by decide), ?_⟩
  rw [ms_sk]
  refine ms_oR_i (x := h.length + 2) (ms_fldR_of (ms_g0 h _) rfl) ?_
  refine ⟨_, c_fill (n := 16) (f := ms_z) (ms_ga h _ 2) (by decide), ?_⟩
  rw [ms_sk]
  refine ms_oR_i (x := h.length + 3) (ms_fldR_of (ms_g0 h _) rfl) ?_
  refine ⟨_, c_fill (n := 16) (f := ms_z) (ms_ga h _ 3) (by decide), ?_⟩
  rw [ms_sk]
  exact ⟨rfl, rfl⟩
set_option maxRecDepth 4000 in
theorem c_Maker_init {d : Nat} {h : ms_S} : ms_Cl (d + 2) 63 [.ref h.length] (h ++ [.inr (4, ms_blank 4)]) none (h ++ ct_mk h.length) := by
  refine m_X4_init (ms_llen (Nat.le_of_ble_eq_true rfl)) (ms_ltot (Nat.le_of_ble_eq_true rfl)) ?_
  refine b_X4_init_0 (ms_nO_i ?_)
  refine ⟨_, c_Book_init (h := h ++ [.inr (4, ms_blank 4)]), ?_⟩
  rw [List.append_assoc, List.singleton_append]
  refine ms_ctW (Nat.le_of_ble_eq_true rfl) trivial ?_
  rw [show (h ++ [Sum.inr (4, ms_blank 4)] : ms_S).length = h.length + 1 by simp]
  refine b_X4_init_15 (ms_ctI (by decide) (by decide) (Nat.le_of_ble_eq_true rfl) (fun _ => trivial) ?_)
  exact b_X4_init_23 ⟨rfl, rfl⟩
def x8_15 : ms_S := .inr (8, [.ref 1, .null, .null, .null, .null, .null, .null, .null, .null, .null, .null, .int 0, .int 0]) :: (ct_tp 1)
def x8_30 : ms_S := .inr (8, [.ref 1, .ref 3, .null, .null, .null, .null, .null, .null, .null, .null, .null, .int 0, .int 0]) :: (ct_tp 1 ++ (ct_rd 3 1))
def x8_41 : ms_S := .inr (8, [.ref 1, .ref 3, .ref 6, .null, .null, .null, .null, .null, .null, .null, .null, .int 0, .int 0]) :: (ct_tp 1 ++ (ct_rd 3 1 ++ (ct_bk 6 bk_0)))
def x8_52 : ms_S := .inr (8, [.ref 1, .ref 3, .ref 6, .ref 12, .null, .null, .null, .null, .null, .null, .null, .int 0, .int 0]) :: (ct_tp 1 ++ (ct_rd 3 1 ++ (ct_bk 6 bk_0 ++ (ct_lw 12))))
def x8_67 : ms_S := .inr (8, [.ref 1, .ref 3, .ref 6, .ref 12, .ref 15, .null, .null, .null, .null, .null, .null, .int 0, .int 0]) :: (ct_tp 1 ++ (ct_rd 3 1 ++ (ct_bk 6 bk_0 ++ (ct_lw 12 ++ (ct_ch 15 12)))))
def x8_90 : ms_S := .inr (8, [.ref 1, .ref 3, .ref 6, .ref 12, .ref 15, .ref 24, .null, .null, .null, .null, .null, .int 0, .int 0]) :: (ct_tp 1 ++ (ct_rd 3 1 ++ (ct_bk 6 bk_0 ++ (ct_lw 12 ++ (ct_ch 15 12 ++ (ct_le 24 6 12 15))))))
def x8_101 : ms_S := .inr (8, [.ref 1, .ref 3, .ref 6, .ref 12, .ref 15, .ref 24, .ref 33, .null, .null, .null, .null, .int 0, .int 0]) :: (ct_tp 1 ++ (ct_rd 3 1 ++ (ct_bk 6 bk_0 ++ (ct_lw 12 ++ (ct_ch 15 12 ++ (ct_le 24 6 12 15 ++ (ct_mk 33)))))))
def x8_127 : ms_S := .inr (8, [.ref 1, .ref 3, .ref 6, .ref 12, .ref 15, .ref 24, .ref 33, .ref 41, .null, .null, .null, .int 0, .int 0]) :: (ct_tp 1 ++ (ct_rd 3 1 ++ (ct_bk 6 bk_0 ++ (ct_lw 12 ++ (ct_ch 15 12 ++ (ct_le 24 6 12 15 ++ (ct_mk 33 ++ (ct_le 41 34 12 15))))))))
def x8_137a : ms_S := .inr (8, [.ref 1, .ref 3, .ref 6, .ref 12, .ref 15, .ref 24, .ref 33, .ref 41, .ref 50, .null, .null, .int 0, .int 0]) :: (ct_tp 1 ++ (ct_rd 3 1 ++ (ct_bk 6 bk_0 ++ (ct_lw 12 ++ (ct_ch 15 12 ++ (ct_le 24 6 12 15 ++ (ct_mk 33 ++ (ct_le 41 34 12 15 ++ ([.inl (4, 2, .inr (.inr fun _ => none))])))))))))
def x8_137b : ms_S := .inr (8, [.ref 1, .ref 3, .ref 6, .ref 12, .ref 15, .ref 24, .ref 33, .ref 41, .ref 50, .null, .null, .int 0, .int 0]) :: (ct_tp 1 ++ (ct_rd 3 1 ++ (ct_bk 6 bk_0 ++ (ct_lw 12 ++ (ct_ch 15 12 ++ (ct_le 24 6 12 15 ++ (ct_mk 33 ++ (ct_le 41 34 12 15 ++ ([.inl (4, 2, .inr (.inr (va_up (fun _ => none) 0 (some 51))))] ++ (ct_bk 51 bk_0))))))))))
def x8_137c : ms_S := .inr (8, [.ref 1, .ref 3, .ref 6, .ref 12, .ref 15, .ref 24, .ref 33, .ref 41, .ref 50, .null, .null, .int 0, .int 0]) :: (ct_tp 1 ++ (ct_rd 3 1 ++ (ct_bk 6 bk_0 ++ (ct_lw 12 ++ (ct_ch 15 12 ++ (ct_le 24 6 12 15 ++ (ct_mk 33 ++ (ct_le 41 34 12 15 ++ ([.inl (4, 2, .inr (.inr (va_up (va_up (fun _ => none) 0 (some 51)) 1 (some 57))))] ++ (ct_bk 51 bk_0 ++ (ct_bk 57 bk_0)))))))))))
def x8_168 : ms_S := .inr (8, [.ref 1, .ref 3, .ref 6, .ref 12, .ref 15, .ref 24, .ref 33, .ref 41, .ref 50, .ref 63, .null, .int 0, .int 0]) :: (ct_tp 1 ++ (ct_rd 3 1 ++ (ct_bk 6 bk_0 ++ (ct_lw 12 ++ (ct_ch 15 12 ++ (ct_le 24 6 12 15 ++ (ct_mk 33 ++ (ct_le 41 34 12 15 ++ ([.inl (4, 2, .inr (.inr (va_up (va_up (fun _ => none) 0 (some 51)) 1 (some 57))))] ++ (ct_bk 51 bk_0 ++ (ct_bk 57 bk_0 ++ ([.inl (2, 2, .inl ms_z)]))))))))))))
def x8_175 : ms_S := .inr (8, [.ref 1, .ref 3, .ref 6, .ref 12, .ref 15, .ref 24, .ref 33, .ref 41, .ref 50, .ref 63, .ref 64, .int 0, .int 0]) :: (ct_tp 1 ++ (ct_rd 3 1 ++ (ct_bk 6 bk_0 ++ (ct_lw 12 ++ (ct_ch 15 12 ++ (ct_le 24 6 12 15 ++ (ct_mk 33 ++ (ct_le 41 34 12 15 ++ ([.inl (4, 2, .inr (.inr (va_up (va_up (fun _ => none) 0 (some 51)) 1 (some 57))))] ++ (ct_bk 51 bk_0 ++ (ct_bk 57 bk_0 ++ ([.inl (2, 2, .inl ms_z)] ++ ([.inl (0, 5, .inl ms_z)])))))))))))))
def x8_end : ms_S := .inr (8, [.ref 1, .ref 3, .ref 6, .ref 12, .ref 15, .ref 24, .ref 33, .ref 41, .ref 50, .ref 63, .ref 64, .int 0, .int (-1)]) :: (ct_tp 1 ++ (ct_rd 3 1 ++ (ct_bk 6 bk_0 ++ (ct_lw 12 ++ (ct_ch 15 12 ++ (ct_le 24 6 12 15 ++ (ct_mk 33 ++ (ct_le 41 34 12 15 ++ ([.inl (4, 2, .inr (.inr (va_up (va_up (fun _ => none) 0 (some 51)) 1 (some 57))))] ++ (ct_bk 51 bk_0 ++ (ct_bk 57 bk_0 ++ ([.inl (2, 2, .inl ms_z)] ++ ([.inl (0, 5, .inl ms_z)])))))))))))))
set_option maxRecDepth 100000 in
set_option maxHeartbeats 4000000 in
theorem c_X_init {d : Nat} : ms_Cl (d + 3) 96 [.ref 0] [.inr (8, ms_blank 8)] none x8_end := by
  refine m_X8_init (Nat.le_of_ble_eq_true rfl) (Nat.le_of_ble_eq_true rfl) ?_
  refine b_X8_init_0 (ms_nO_i ⟨_, c_Tape_init (h := [.inr (8, ms_blank 8)]), ms_wF_i (a := 0) rfl rfl trivial ?_⟩)
  show ms_V cd_X8_init none 0 _ _ 15 [(0, .ref 0)] [] x8_15
  refine b_X8_init_15 (ms_nO_i (ms_oR_i (x := 1) rfl ⟨_, c_Reader_init (h := x8_15), ms_wF_i (a := 0) rfl rfl trivial ?_⟩))
  show ms_V cd_X8_init none 0 _ _ 30 [(0, .ref 0)] [] x8_30
  refine b_X8_init_30 (ms_nO_i ⟨_, c_Book_init (h := x8_30), ms_wF_i (a := 0) rfl rfl trivial ?_⟩)
  show ms_V cd_X8_init none 0 _ _ 41 [(0, .ref 0)] [] x8_41
  refine b_X8_init_41 (ms_nO_i ⟨_, c_Laws_init (h := x8_41), ms_wF_i (a := 0) rfl rfl trivial ?_⟩)
  show ms_V cd_X8_init none 0 _ _ 52 [(0, .ref 0)] [] x8_52
  refine b_X8_init_52 (ms_nO_i (ms_oR_i (x := 12) rfl ⟨_, c_Chooser_init (h := x8_52), ms_wF_i (a := 0) rfl rfl trivial ?_⟩))
  show ms_V cd_X8_init none 0 _ _ 67 [(0, .ref 0)] [] x8_67
  refine b_X8_init_67 (ms_nO_i (ms_oR_i (x := 6) rfl (ms_oR_i (x := 12) rfl (ms_oR_i (x := 15) rfl ⟨_, c_Leasts_init (h := x8_67), ms_wF_i (a := 0) rfl rfl trivial ?_⟩))))
  show ms_V cd_X8_init none 0 _ _ 90 [(0, .ref 0)] [] x8_90
  refine b_X8_init_90 (ms_nO_i ⟨_, c_Maker_init (h := x8_90), ms_wF_i (a := 0) rfl rfl trivial ?_⟩)
  show ms_V cd_X8_init none 0 _ _ 101 [(0, .ref 0)] [] x8_101
  refine b_X8_init_101 (ms_nO_i (ms_oR_i (x := 33) rfl (ms_oR_i (x := 34) rfl (ms_oR_i (x := 12) rfl (ms_oR_i (x := 15) rfl ⟨_, c_Leasts_init (h := x8_101), ms_wF_i (a := 0) rfl rfl trivial ?_⟩)))))
  show ms_V cd_X8_init none 0 _ _ 127 [(0, .ref 0)] [] x8_127
  refine b_X8_init_127 ⟨by decide, by decide, ms_wF_i (a := 0) rfl rfl trivial ?_⟩
  show ms_V cd_X8_init none 0 _ _ 135 [(0, .ref 0)] [] x8_137a
  refine b_X8_init_135 (b_X8_init_137 (ms_no (by decide) (ms_oR_i (x := 50) rfl (ms_nO_i ⟨_, c_Book_init (h := x8_137a), ms_wA_i (t := 4) (n := 2) (f := fun _ => none) (cx := 0) (fx := bk_o 51 bk_0) rfl rfl rfl (by unfold vp_in; decide) ?_⟩))))
  show ms_V cd_X8_init none 0 _ _ 155 [(0, .ref 0), (1, .int 0)] [] x8_137b
  refine b_X8_init_155 (b_X8_init_137 (ms_no (by decide) (ms_oR_i (x := 50) rfl (ms_nO_i ⟨_, c_Book_init (h := x8_137b), ms_wA_i (t := 4) (n := 2) (f := va_up (fun _ => none) 0 (some 51)) (cx := 0) (fx := bk_o 57 bk_0) rfl rfl rfl (by unfold vp_in; decide) ?_⟩))))
  show ms_V cd_X8_init none 0 _ _ 155 [(0, .ref 0), (1, .int (0 + 1))] [] x8_137c
  refine b_X8_init_155 (b_X8_init_137 (ms_yes (by decide) ⟨by decide, by decide, ms_wF_i (a := 0) rfl rfl trivial ?_⟩))
  show ms_V cd_X8_init none 0 _ _ 168 [(0, .ref 0)] [] x8_168
  refine b_X8_init_168 ⟨by decide, by decide, ms_wF_i (a := 0) rfl rfl trivial ?_⟩
  show ms_V cd_X8_init none 0 _ _ 175 [(0, .ref 0)] [] x8_175
  refine b_X8_init_175 (ms_wF_i (a := 0) rfl rfl trivial (ms_wF_i (a := 0) rfl rfl trivial ?_))
  exact ⟨rfl, rfl⟩
