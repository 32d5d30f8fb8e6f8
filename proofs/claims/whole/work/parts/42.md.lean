/-! THE MODEL: its cells as a function of its state: written by wip/whole/md.py -/
abbrev md_T : Type := (Nat → Int32) × (Nat → Int64) × (Nat → Nat → Int32) × (Nat → Nat → Int64)
def md_i (M : md_T) (k : Nat) : Int32 := M.1 k
def md_l (M : md_T) (k : Nat) : Int64 := M.2.1 k
def md_a (M : md_T) (k n : Nat) : Int32 := M.2.2.1 k n
def md_q (M : md_T) (k n : Nat) : Int64 := M.2.2.2 k n
def md_ui (M : md_T) (k : Nat) (x : Int32) : md_T := (fun j => if j = k then x else M.1 j, M.2)
def md_ul (M : md_T) (k : Nat) (x : Int64) : md_T := (M.1, fun j => if j = k then x else M.2.1 j, M.2.2)
def md_ua (M : md_T) (k n : Nat) (x : Int32) : md_T := (M.1, M.2.1, fun j => if j = k then upd (M.2.2.1 j) n x else M.2.2.1 j, M.2.2.2)
def md_uq (M : md_T) (k n : Nat) (x : Int64) : md_T := (M.1, M.2.1, M.2.2.1, fun j => if j = k then vp_updL (M.2.2.2 j) n x else M.2.2.2 j)
def md_o (n : Nat) (M : md_T) : List Value := [.int (md_i M 0), .int (md_i M 1), .ref (n + 1), .ref (n + 2), .ref (n + 3), .ref (n + 4), .ref (n + 5), .ref (n + 6), .int (md_i M 8), .int (md_i M 9), .int (md_i M 10), .int (md_i M 11), .long (md_l M 12), .int (md_i M 13), .int (md_i M 14), .int (md_i M 15), .ref (n + 7), .int (md_i M 17), .ref (n + 8), .ref (n + 9), .int (md_i M 20), .ref (n + 10), .ref (n + 11), .int (md_i M 23), .int (md_i M 24), .ref (n + 12), .ref (n + 13), .int (md_i M 27), .long (md_l M 28), .long (md_l M 29), .int (md_i M 30), .ref (n + 14), .ref (n + 15), .int (md_i M 33), .ref (n + 16), .ref (n + 17), .ref (n + 18), .ref (n + 19), .int (md_i M 38), .int (md_i M 39), .ref (n + 20), .int (md_i M 41), .ref (n + 21), .ref (n + 22), .ref (n + 23), .ref (n + 24), .ref (n + 25), .ref (n + 26), .ref (n + 27), .ref (n + 28), .long (md_l M 50), .ref (n + 29)]
def md_c (n : Nat) (M : md_T) : ms_S := .inr (9, md_o n M) :: [.inl (0, 7, .inl (md_a M 2)), .inl (0, 18906, .inl (md_a M 3)), .inl (0, 946, .inl (md_a M 4)), .inl (0, 37812, .inl (md_a M 5)), .inl (2, 2, .inl (md_a M 6)), .inl (0, 400, .inl (md_a M 7)), .inl (0, 96, .inl (md_a M 16)), .inl (0, 400, .inl (md_a M 18)), .inl (0, 400, .inl (md_a M 19)), .inl (0, 400, .inl (md_a M 21)), .inl (0, 400, .inl (md_a M 22)), .inl (1, 17, .inr (.inl (md_q M 25))), .inl (1, 400, .inr (.inl (md_q M 26))), .inl (0, 9, .inl (md_a M 31)), .inl (0, 9, .inl (md_a M 32)), .inl (0, 12, .inl (md_a M 34)), .inl (0, 12, .inl (md_a M 35)), .inl (0, 108, .inl (md_a M 36)), .inl (0, 108, .inl (md_a M 37)), .inl (0, 120, .inl (md_a M 40)), .inl (0, 41, .inl (md_a M 42)), .inl (0, 41, .inl (md_a M 43)), .inl (0, 41, .inl (md_a M 44)), .inl (0, 41, .inl (md_a M 45)), .inl (0, 41, .inl (md_a M 46)), .inl (0, 41, .inl (md_a M 47)), .inl (0, 41, .inl (md_a M 48)), .inl (0, 41, .inl (md_a M 49)), .inl (0, 64, .inl (md_a M 51))]
def ms_m (h : ms_S) (M : md_T) (t : ms_S) : ms_S := h ++ (md_c h.length M ++ t)
section Md
variable {h t : ms_S} {M : md_T}
theorem ms_m_0 : (ms_m h M t)[h.length]? = some (.inr (9, md_o h.length M)) := ms_g0 h _
theorem ms_m_len : (ms_m h M t).length = h.length + (30 + t.length) := by unfold ms_m; rw [List.length_append, List.length_append]; congr 2
theorem md_set (k : Nat) (c : ms_C) (M2 : md_T) (hk : ∀ n, (md_c n M).set k c = md_c n M2) (hl : k < 30) : (ms_m h M t).set (h.length + k) c = ms_m h M2 t := by
  unfold ms_m
  rw [ms_sk, List.set_append_left _ _ (show k < (md_c h.length M).length from hl), hk]
theorem mm_f0 : ms_fldI (ms_m h M t) h.length 9 0 = some (md_i M 0) := ms_fldI_of ms_m_0 rfl
theorem mm_f1 : ms_fldI (ms_m h M t) h.length 9 1 = some (md_i M 1) := ms_fldI_of ms_m_0 rfl
theorem mm_f2 : ms_fldR (ms_m h M t) h.length 9 2 = some (h.length + 1) := ms_fldR_of ms_m_0 rfl
theorem mm_f3 : ms_fldR (ms_m h M t) h.length 9 3 = some (h.length + 2) := ms_fldR_of ms_m_0 rfl
theorem mm_f4 : ms_fldR (ms_m h M t) h.length 9 4 = some (h.length + 3) := ms_fldR_of ms_m_0 rfl
theorem mm_f5 : ms_fldR (ms_m h M t) h.length 9 5 = some (h.length + 4) := ms_fldR_of ms_m_0 rfl
theorem mm_f6 : ms_fldR (ms_m h M t) h.length 9 6 = some (h.length + 5) := ms_fldR_of ms_m_0 rfl
theorem mm_f7 : ms_fldR (ms_m h M t) h.length 9 7 = some (h.length + 6) := ms_fldR_of ms_m_0 rfl
theorem mm_f8 : ms_fldI (ms_m h M t) h.length 9 8 = some (md_i M 8) := ms_fldI_of ms_m_0 rfl
theorem mm_f9 : ms_fldI (ms_m h M t) h.length 9 9 = some (md_i M 9) := ms_fldI_of ms_m_0 rfl
theorem mm_f10 : ms_fldI (ms_m h M t) h.length 9 10 = some (md_i M 10) := ms_fldI_of ms_m_0 rfl
theorem mm_f11 : ms_fldI (ms_m h M t) h.length 9 11 = some (md_i M 11) := ms_fldI_of ms_m_0 rfl
theorem mm_f12 : ms_fldL (ms_m h M t) h.length 9 12 = some (md_l M 12) := ms_fldL_of ms_m_0 rfl
theorem mm_f13 : ms_fldI (ms_m h M t) h.length 9 13 = some (md_i M 13) := ms_fldI_of ms_m_0 rfl
theorem mm_f14 : ms_fldI (ms_m h M t) h.length 9 14 = some (md_i M 14) := ms_fldI_of ms_m_0 rfl
theorem mm_f15 : ms_fldI (ms_m h M t) h.length 9 15 = some (md_i M 15) := ms_fldI_of ms_m_0 rfl
theorem mm_f16 : ms_fldR (ms_m h M t) h.length 9 16 = some (h.length + 7) := ms_fldR_of ms_m_0 rfl
theorem mm_f17 : ms_fldI (ms_m h M t) h.length 9 17 = some (md_i M 17) := ms_fldI_of ms_m_0 rfl
theorem mm_f18 : ms_fldR (ms_m h M t) h.length 9 18 = some (h.length + 8) := ms_fldR_of ms_m_0 rfl
theorem mm_f19 : ms_fldR (ms_m h M t) h.length 9 19 = some (h.length + 9) := ms_fldR_of ms_m_0 rfl
theorem mm_f20 : ms_fldI (ms_m h M t) h.length 9 20 = some (md_i M 20) := ms_fldI_of ms_m_0 rfl
theorem mm_f21 : ms_fldR (ms_m h M t) h.length 9 21 = some (h.length + 10) := ms_fldR_of ms_m_0 rfl
theorem mm_f22 : ms_fldR (ms_m h M t) h.length 9 22 = some (h.length + 11) := ms_fldR_of ms_m_0 rfl
theorem mm_f23 : ms_fldI (ms_m h M t) h.length 9 23 = some (md_i M 23) := ms_fldI_of ms_m_0 rfl
theorem mm_f24 : ms_fldI (ms_m h M t) h.length 9 24 = some (md_i M 24) := ms_fldI_of ms_m_0 rfl
theorem mm_f25 : ms_fldR (ms_m h M t) h.length 9 25 = some (h.length + 12) := ms_fldR_of ms_m_0 rfl
theorem mm_f26 : ms_fldR (ms_m h M t) h.length 9 26 = some (h.length + 13) := ms_fldR_of ms_m_0 rfl
theorem mm_f27 : ms_fldI (ms_m h M t) h.length 9 27 = some (md_i M 27) := ms_fldI_of ms_m_0 rfl
theorem mm_f28 : ms_fldL (ms_m h M t) h.length 9 28 = some (md_l M 28) := ms_fldL_of ms_m_0 rfl
theorem mm_f29 : ms_fldL (ms_m h M t) h.length 9 29 = some (md_l M 29) := ms_fldL_of ms_m_0 rfl
theorem mm_f30 : ms_fldI (ms_m h M t) h.length 9 30 = some (md_i M 30) := ms_fldI_of ms_m_0 rfl
theorem mm_f31 : ms_fldR (ms_m h M t) h.length 9 31 = some (h.length + 14) := ms_fldR_of ms_m_0 rfl
theorem mm_f32 : ms_fldR (ms_m h M t) h.length 9 32 = some (h.length + 15) := ms_fldR_of ms_m_0 rfl
theorem mm_f33 : ms_fldI (ms_m h M t) h.length 9 33 = some (md_i M 33) := ms_fldI_of ms_m_0 rfl
theorem mm_f34 : ms_fldR (ms_m h M t) h.length 9 34 = some (h.length + 16) := ms_fldR_of ms_m_0 rfl
theorem mm_f35 : ms_fldR (ms_m h M t) h.length 9 35 = some (h.length + 17) := ms_fldR_of ms_m_0 rfl
theorem mm_f36 : ms_fldR (ms_m h M t) h.length 9 36 = some (h.length + 18) := ms_fldR_of ms_m_0 rfl
theorem mm_f37 : ms_fldR (ms_m h M t) h.length 9 37 = some (h.length + 19) := ms_fldR_of ms_m_0 rfl
theorem mm_f38 : ms_fldI (ms_m h M t) h.length 9 38 = some (md_i M 38) := ms_fldI_of ms_m_0 rfl
theorem mm_f39 : ms_fldI (ms_m h M t) h.length 9 39 = some (md_i M 39) := ms_fldI_of ms_m_0 rfl
theorem mm_f40 : ms_fldR (ms_m h M t) h.length 9 40 = some (h.length + 20) := ms_fldR_of ms_m_0 rfl
theorem mm_f41 : ms_fldI (ms_m h M t) h.length 9 41 = some (md_i M 41) := ms_fldI_of ms_m_0 rfl
theorem mm_f42 : ms_fldR (ms_m h M t) h.length 9 42 = some (h.length + 21) := ms_fldR_of ms_m_0 rfl
theorem mm_f43 : ms_fldR (ms_m h M t) h.length 9 43 = some (h.length + 22) := ms_fldR_of ms_m_0 rfl
theorem mm_f44 : ms_fldR (ms_m h M t) h.length 9 44 = some (h.length + 23) := ms_fldR_of ms_m_0 rfl
theorem mm_f45 : ms_fldR (ms_m h M t) h.length 9 45 = some (h.length + 24) := ms_fldR_of ms_m_0 rfl
theorem mm_f46 : ms_fldR (ms_m h M t) h.length 9 46 = some (h.length + 25) := ms_fldR_of ms_m_0 rfl
theorem mm_f47 : ms_fldR (ms_m h M t) h.length 9 47 = some (h.length + 26) := ms_fldR_of ms_m_0 rfl
theorem mm_f48 : ms_fldR (ms_m h M t) h.length 9 48 = some (h.length + 27) := ms_fldR_of ms_m_0 rfl
theorem mm_f49 : ms_fldR (ms_m h M t) h.length 9 49 = some (h.length + 28) := ms_fldR_of ms_m_0 rfl
theorem mm_f50 : ms_fldL (ms_m h M t) h.length 9 50 = some (md_l M 50) := ms_fldL_of ms_m_0 rfl
theorem mm_f51 : ms_fldR (ms_m h M t) h.length 9 51 = some (h.length + 29) := ms_fldR_of ms_m_0 rfl
theorem md_put (k : Nat) (v : Value) (M2 : md_T) (hk : ∀ n, (md_o n M).set k v = md_o n M2) (hc : ∀ n, (md_c n M).tail = (md_c n M2).tail) : ms_put (ms_m h M t) h.length k v = ms_m h M2 t := by
  unfold ms_put
  rw [ms_m_0]
  unfold ms_m
  show (h ++ (md_c h.length M ++ t)).set h.length _ = _
  rw [hk, ms_s0]
  show h ++ (.inr (9, md_o h.length M2) :: ((md_c h.length M).tail ++ t)) = _
  rw [hc]
  rfl
theorem mm_p0 {x : Int32} {K : ms_S → Prop} : ms_wF (ms_m h M t) h.length 9 0 (.int x) K = K (ms_m h (md_ui M 0 x) t) := by
  unfold ms_wF; rw [ms_fld_of ms_m_0 (show (md_o h.length M)[0]? = some (.int (md_i M 0)) from rfl)]
  show (True ∧ K _) = _
  rw [md_put (M := M) 0 (.int x) (md_ui M 0 x) (fun _ => rfl) (fun _ => rfl), true_and]
theorem mm_p1 {x : Int32} {K : ms_S → Prop} : ms_wF (ms_m h M t) h.length 9 1 (.int x) K = K (ms_m h (md_ui M 1 x) t) := by
  unfold ms_wF; rw [ms_fld_of ms_m_0 (show (md_o h.length M)[1]? = some (.int (md_i M 1)) from rfl)]
  show (True ∧ K _) = _
  rw [md_put (M := M) 1 (.int x) (md_ui M 1 x) (fun _ => rfl) (fun _ => rfl), true_and]
theorem mm_e2 : ms_arr (ms_m h M t) (h.length + 1) = some (0, 7, .inl (md_a M 2)) := by unfold ms_arr; rw [show (ms_m h M t)[h.length + 1]? = _ from ms_ga h _ 1]; rfl
theorem mm_r2 {i : Int32} {K : Int32 → Prop} : ms_rI (ms_m h M t) (h.length + 1) 0 i K = (vp_in i 7 ∧ K (md_a M 2 i.toNatClampNeg)) := by
  unfold ms_rI; rw [mm_e2]; rfl
theorem mm_w2 {i : Int32} {x : Int32} {K : ms_S → Prop} : ms_wI (ms_m h M t) (h.length + 1) i x K = (vp_in i 7 ∧ K (ms_m h (md_ua M 2 i.toNatClampNeg x) t)) := by
  unfold ms_wI; rw [mm_e2]
  show (_ ∧ K ((ms_m h M t).set (h.length + 1) _)) = _
  rw [md_set (M := M) 1 (.inl (0, 7, .inl (upd (md_a M 2) i.toNatClampNeg x))) (md_ua M 2 i.toNatClampNeg x) (fun _ => rfl) (Nat.le_of_ble_eq_true rfl)]
theorem mm_e3 : ms_arr (ms_m h M t) (h.length + 2) = some (0, 18906, .inl (md_a M 3)) := by unfold ms_arr; rw [show (ms_m h M t)[h.length + 2]? = _ from ms_ga h _ 2]; rfl
theorem mm_r3 {i : Int32} {K : Int32 → Prop} : ms_rI (ms_m h M t) (h.length + 2) 0 i K = (vp_in i 18906 ∧ K (md_a M 3 i.toNatClampNeg)) := by
  unfold ms_rI; rw [mm_e3]; rfl
theorem mm_w3 {i : Int32} {x : Int32} {K : ms_S → Prop} : ms_wI (ms_m h M t) (h.length + 2) i x K = (vp_in i 18906 ∧ K (ms_m h (md_ua M 3 i.toNatClampNeg x) t)) := by
  unfold ms_wI; rw [mm_e3]
  show (_ ∧ K ((ms_m h M t).set (h.length + 2) _)) = _
  rw [md_set (M := M) 2 (.inl (0, 18906, .inl (upd (md_a M 3) i.toNatClampNeg x))) (md_ua M 3 i.toNatClampNeg x) (fun _ => rfl) (Nat.le_of_ble_eq_true rfl)]
theorem mm_e4 : ms_arr (ms_m h M t) (h.length + 3) = some (0, 946, .inl (md_a M 4)) := by unfold ms_arr; rw [show (ms_m h M t)[h.length + 3]? = _ from ms_ga h _ 3]; rfl
theorem mm_r4 {i : Int32} {K : Int32 → Prop} : ms_rI (ms_m h M t) (h.length + 3) 0 i K = (vp_in i 946 ∧ K (md_a M 4 i.toNatClampNeg)) := by
  unfold ms_rI; rw [mm_e4]; rfl
theorem mm_w4 {i : Int32} {x : Int32} {K : ms_S → Prop} : ms_wI (ms_m h M t) (h.length + 3) i x K = (vp_in i 946 ∧ K (ms_m h (md_ua M 4 i.toNatClampNeg x) t)) := by
  unfold ms_wI; rw [mm_e4]
  show (_ ∧ K ((ms_m h M t).set (h.length + 3) _)) = _
  rw [md_set (M := M) 3 (.inl (0, 946, .inl (upd (md_a M 4) i.toNatClampNeg x))) (md_ua M 4 i.toNatClampNeg x) (fun _ => rfl) (Nat.le_of_ble_eq_true rfl)]
theorem mm_e5 : ms_arr (ms_m h M t) (h.length + 4) = some (0, 37812, .inl (md_a M 5)) := by unfold ms_arr; rw [show (ms_m h M t)[h.length + 4]? = _ from ms_ga h _ 4]; rfl
theorem mm_r5 {i : Int32} {K : Int32 → Prop} : ms_rI (ms_m h M t) (h.length + 4) 0 i K = (vp_in i 37812 ∧ K (md_a M 5 i.toNatClampNeg)) := by
  unfold ms_rI; rw [mm_e5]; rfl
theorem mm_w5 {i : Int32} {x : Int32} {K : ms_S → Prop} : ms_wI (ms_m h M t) (h.length + 4) i x K = (vp_in i 37812 ∧ K (ms_m h (md_ua M 5 i.toNatClampNeg x) t)) := by
  unfold ms_wI; rw [mm_e5]
  show (_ ∧ K ((ms_m h M t).set (h.length + 4) _)) = _
  rw [md_set (M := M) 4 (.inl (0, 37812, .inl (upd (md_a M 5) i.toNatClampNeg x))) (md_ua M 5 i.toNatClampNeg x) (fun _ => rfl) (Nat.le_of_ble_eq_true rfl)]
theorem mm_e6 : ms_arr (ms_m h M t) (h.length + 5) = some (2, 2, .inl (md_a M 6)) := by unfold ms_arr; rw [show (ms_m h M t)[h.length + 5]? = _ from ms_ga h _ 5]; rfl
theorem mm_r6 {i : Int32} {K : Int32 → Prop} : ms_rI (ms_m h M t) (h.length + 5) 2 i K = (vp_in i 2 ∧ K (md_a M 6 i.toNatClampNeg)) := by
  unfold ms_rI; rw [mm_e6]; rfl
theorem mm_w6 {i : Int32} {x : Int32} {K : ms_S → Prop} : ms_wB (ms_m h M t) (h.length + 5) i x K = (vp_in i 2 ∧ (x = 0 ∨ x = 1) ∧ K (ms_m h (md_ua M 6 i.toNatClampNeg x) t)) := by
  unfold ms_wB; rw [mm_e6]
  show (_ ∧ _ ∧ K ((ms_m h M t).set (h.length + 5) _)) = _
  rw [md_set (M := M) 5 (.inl (2, 2, .inl (upd (md_a M 6) i.toNatClampNeg x))) (md_ua M 6 i.toNatClampNeg x) (fun _ => rfl) (Nat.le_of_ble_eq_true rfl)]
theorem mm_e7 : ms_arr (ms_m h M t) (h.length + 6) = some (0, 400, .inl (md_a M 7)) := by unfold ms_arr; rw [show (ms_m h M t)[h.length + 6]? = _ from ms_ga h _ 6]; rfl
theorem mm_r7 {i : Int32} {K : Int32 → Prop} : ms_rI (ms_m h M t) (h.length + 6) 0 i K = (vp_in i 400 ∧ K (md_a M 7 i.toNatClampNeg)) := by
  unfold ms_rI; rw [mm_e7]; rfl
theorem mm_w7 {i : Int32} {x : Int32} {K : ms_S → Prop} : ms_wI (ms_m h M t) (h.length + 6) i x K = (vp_in i 400 ∧ K (ms_m h (md_ua M 7 i.toNatClampNeg x) t)) := by
  unfold ms_wI; rw [mm_e7]
  show (_ ∧ K ((ms_m h M t).set (h.length + 6) _)) = _
  rw [md_set (M := M) 6 (.inl (0, 400, .inl (upd (md_a M 7) i.toNatClampNeg x))) (md_ua M 7 i.toNatClampNeg x) (fun _ => rfl) (Nat.le_of_ble_eq_true rfl)]
theorem mm_p8 {x : Int32} {K : ms_S → Prop} : ms_wF (ms_m h M t) h.length 9 8 (.int x) K = K (ms_m h (md_ui M 8 x) t) := by
  unfold ms_wF; rw [ms_fld_of ms_m_0 (show (md_o h.length M)[8]? = some (.int (md_i M 8)) from rfl)]
  show (True ∧ K _) = _
  rw [md_put (M := M) 8 (.int x) (md_ui M 8 x) (fun _ => rfl) (fun _ => rfl), true_and]
theorem mm_p9 {x : Int32} {K : ms_S → Prop} : ms_wF (ms_m h M t) h.length 9 9 (.int x) K = K (ms_m h (md_ui M 9 x) t) := by
  unfold ms_wF; rw [ms_fld_of ms_m_0 (show (md_o h.length M)[9]? = some (.int (md_i M 9)) from rfl)]
  show (True ∧ K _) = _
  rw [md_put (M := M) 9 (.int x) (md_ui M 9 x) (fun _ => rfl) (fun _ => rfl), true_and]
theorem mm_p10 {x : Int32} {K : ms_S → Prop} : ms_wF (ms_m h M t) h.length 9 10 (.int x) K = K (ms_m h (md_ui M 10 x) t) := by
  unfold ms_wF; rw [ms_fld_of ms_m_0 (show (md_o h.length M)[10]? = some (.int (md_i M 10)) from rfl)]
  show (True ∧ K _) = _
  rw [md_put (M := M) 10 (.int x) (md_ui M 10 x) (fun _ => rfl) (fun _ => rfl), true_and]
theorem mm_p11 {x : Int32} {K : ms_S → Prop} : ms_wF (ms_m h M t) h.length 9 11 (.int x) K = K (ms_m h (md_ui M 11 x) t) := by
  unfold ms_wF; rw [ms_fld_of ms_m_0 (show (md_o h.length M)[11]? = some (.int (md_i M 11)) from rfl)]
  show (True ∧ K _) = _
  rw [md_put (M := M) 11 (.int x) (md_ui M 11 x) (fun _ => rfl) (fun _ => rfl), true_and]
theorem mm_p12 {x : Int64} {K : ms_S → Prop} : ms_wF (ms_m h M t) h.length 9 12 (.long x) K = K (ms_m h (md_ul M 12 x) t) := by
  unfold ms_wF; rw [ms_fld_of ms_m_0 (show (md_o h.length M)[12]? = some (.long (md_l M 12)) from rfl)]
  show (True ∧ K _) = _
  rw [md_put (M := M) 12 (.long x) (md_ul M 12 x) (fun _ => rfl) (fun _ => rfl), true_and]
theorem mm_p13 {x : Int32} {K : ms_S → Prop} : ms_wF (ms_m h M t) h.length 9 13 (.int x) K = K (ms_m h (md_ui M 13 x) t) := by
  unfold ms_wF; rw [ms_fld_of ms_m_0 (show (md_o h.length M)[13]? = some (.int (md_i M 13)) from rfl)]
  show (True ∧ K _) = _
  rw [md_put (M := M) 13 (.int x) (md_ui M 13 x) (fun _ => rfl) (fun _ => rfl), true_and]
theorem mm_p14 {x : Int32} {K : ms_S → Prop} : ms_wF (ms_m h M t) h.length 9 14 (.int x) K = ((x = 0 ∨ x = 1) ∧ K (ms_m h (md_ui M 14 x) t)) := by
  unfold ms_wF; rw [ms_fld_of ms_m_0 (show (md_o h.length M)[14]? = some (.int (md_i M 14)) from rfl)]
  show ((x = 0 ∨ x = 1) ∧ K _) = _
  rw [md_put (M := M) 14 (.int x) (md_ui M 14 x) (fun _ => rfl) (fun _ => rfl)]
theorem mm_p15 {x : Int32} {K : ms_S → Prop} : ms_wF (ms_m h M t) h.length 9 15 (.int x) K = K (ms_m h (md_ui M 15 x) t) := by
  unfold ms_wF; rw [ms_fld_of ms_m_0 (show (md_o h.length M)[15]? = some (.int (md_i M 15)) from rfl)]
  show (True ∧ K _) = _
  rw [md_put (M := M) 15 (.int x) (md_ui M 15 x) (fun _ => rfl) (fun _ => rfl), true_and]
theorem mm_e16 : ms_arr (ms_m h M t) (h.length + 7) = some (0, 96, .inl (md_a M 16)) := by unfold ms_arr; rw [show (ms_m h M t)[h.length + 7]? = _ from ms_ga h _ 7]; rfl
theorem mm_r16 {i : Int32} {K : Int32 → Prop} : ms_rI (ms_m h M t) (h.length + 7) 0 i K = (vp_in i 96 ∧ K (md_a M 16 i.toNatClampNeg)) := by
  unfold ms_rI; rw [mm_e16]; rfl
theorem mm_w16 {i : Int32} {x : Int32} {K : ms_S → Prop} : ms_wI (ms_m h M t) (h.length + 7) i x K = (vp_in i 96 ∧ K (ms_m h (md_ua M 16 i.toNatClampNeg x) t)) := by
  unfold ms_wI; rw [mm_e16]
  show (_ ∧ K ((ms_m h M t).set (h.length + 7) _)) = _
  rw [md_set (M := M) 7 (.inl (0, 96, .inl (upd (md_a M 16) i.toNatClampNeg x))) (md_ua M 16 i.toNatClampNeg x) (fun _ => rfl) (Nat.le_of_ble_eq_true rfl)]
theorem mm_p17 {x : Int32} {K : ms_S → Prop} : ms_wF (ms_m h M t) h.length 9 17 (.int x) K = K (ms_m h (md_ui M 17 x) t) := by
  unfold ms_wF; rw [ms_fld_of ms_m_0 (show (md_o h.length M)[17]? = some (.int (md_i M 17)) from rfl)]
  show (True ∧ K _) = _
  rw [md_put (M := M) 17 (.int x) (md_ui M 17 x) (fun _ => rfl) (fun _ => rfl), true_and]
theorem mm_e18 : ms_arr (ms_m h M t) (h.length + 8) = some (0, 400, .inl (md_a M 18)) := by unfold ms_arr; rw [show (ms_m h M t)[h.length + 8]? = _ from ms_ga h _ 8]; rfl
theorem mm_r18 {i : Int32} {K : Int32 → Prop} : ms_rI (ms_m h M t) (h.length + 8) 0 i K = (vp_in i 400 ∧ K (md_a M 18 i.toNatClampNeg)) := by
  unfold ms_rI; rw [mm_e18]; rfl
theorem mm_w18 {i : Int32} {x : Int32} {K : ms_S → Prop} : ms_wI (ms_m h M t) (h.length + 8) i x K = (vp_in i 400 ∧ K (ms_m h (md_ua M 18 i.toNatClampNeg x) t)) := by
  unfold ms_wI; rw [mm_e18]
  show (_ ∧ K ((ms_m h M t).set (h.length + 8) _)) = _
  rw [md_set (M := M) 8 (.inl (0, 400, .inl (upd (md_a M 18) i.toNatClampNeg x))) (md_ua M 18 i.toNatClampNeg x) (fun _ => rfl) (Nat.le_of_ble_eq_true rfl)]
theorem mm_e19 : ms_arr (ms_m h M t) (h.length + 9) = some (0, 400, .inl (md_a M 19)) := by unfold ms_arr; rw [show (ms_m h M t)[h.length + 9]? = _ from ms_ga h _ 9]; rfl
theorem mm_r19 {i : Int32} {K : Int32 → Prop} : ms_rI (ms_m h M t) (h.length + 9) 0 i K = (vp_in i 400 ∧ K (md_a M 19 i.toNatClampNeg)) := by
  unfold ms_rI; rw [mm_e19]; rfl
theorem mm_w19 {i : Int32} {x : Int32} {K : ms_S → Prop} : ms_wI (ms_m h M t) (h.length + 9) i x K = (vp_in i 400 ∧ K (ms_m h (md_ua M 19 i.toNatClampNeg x) t)) := by
  unfold ms_wI; rw [mm_e19]
  show (_ ∧ K ((ms_m h M t).set (h.length + 9) _)) = _
  rw [md_set (M := M) 9 (.inl (0, 400, .inl (upd (md_a M 19) i.toNatClampNeg x))) (md_ua M 19 i.toNatClampNeg x) (fun _ => rfl) (Nat.le_of_ble_eq_true rfl)]
theorem mm_p20 {x : Int32} {K : ms_S → Prop} : ms_wF (ms_m h M t) h.length 9 20 (.int x) K = K (ms_m h (md_ui M 20 x) t) := by
  unfold ms_wF; rw [ms_fld_of ms_m_0 (show (md_o h.length M)[20]? = some (.int (md_i M 20)) from rfl)]
  show (True ∧ K _) = _
  rw [md_put (M := M) 20 (.int x) (md_ui M 20 x) (fun _ => rfl) (fun _ => rfl), true_and]
theorem mm_e21 : ms_arr (ms_m h M t) (h.length + 10) = some (0, 400, .inl (md_a M 21)) := by unfold ms_arr; rw [show (ms_m h M t)[h.length + 10]? = _ from ms_ga h _ 10]; rfl
theorem mm_r21 {i : Int32} {K : Int32 → Prop} : ms_rI (ms_m h M t) (h.length + 10) 0 i K = (vp_in i 400 ∧ K (md_a M 21 i.toNatClampNeg)) := by
  unfold ms_rI; rw [mm_e21]; rfl
theorem mm_w21 {i : Int32} {x : Int32} {K : ms_S → Prop} : ms_wI (ms_m h M t) (h.length + 10) i x K = (vp_in i 400 ∧ K (ms_m h (md_ua M 21 i.toNatClampNeg x) t)) := by
  unfold ms_wI; rw [mm_e21]
  show (_ ∧ K ((ms_m h M t).set (h.length + 10) _)) = _
  rw [md_set (M := M) 10 (.inl (0, 400, .inl (upd (md_a M 21) i.toNatClampNeg x))) (md_ua M 21 i.toNatClampNeg x) (fun _ => rfl) (Nat.le_of_ble_eq_true rfl)]
theorem mm_e22 : ms_arr (ms_m h M t) (h.length + 11) = some (0, 400, .inl (md_a M 22)) := by unfold ms_arr; rw [show (ms_m h M t)[h.length + 11]? = _ from ms_ga h _ 11]; rfl
theorem mm_r22 {i : Int32} {K : Int32 → Prop} : ms_rI (ms_m h M t) (h.length + 11) 0 i K = (vp_in i 400 ∧ K (md_a M 22 i.toNatClampNeg)) := by
  unfold ms_rI; rw [mm_e22]; rfl
theorem mm_w22 {i : Int32} {x : Int32} {K : ms_S → Prop} : ms_wI (ms_m h M t) (h.length + 11) i x K = (vp_in i 400 ∧ K (ms_m h (md_ua M 22 i.toNatClampNeg x) t)) := by
  unfold ms_wI; rw [mm_e22]
  show (_ ∧ K ((ms_m h M t).set (h.length + 11) _)) = _
  rw [md_set (M := M) 11 (.inl (0, 400, .inl (upd (md_a M 22) i.toNatClampNeg x))) (md_ua M 22 i.toNatClampNeg x) (fun _ => rfl) (Nat.le_of_ble_eq_true rfl)]
theorem mm_p23 {x : Int32} {K : ms_S → Prop} : ms_wF (ms_m h M t) h.length 9 23 (.int x) K = K (ms_m h (md_ui M 23 x) t) := by
  unfold ms_wF; rw [ms_fld_of ms_m_0 (show (md_o h.length M)[23]? = some (.int (md_i M 23)) from rfl)]
  show (True ∧ K _) = _
  rw [md_put (M := M) 23 (.int x) (md_ui M 23 x) (fun _ => rfl) (fun _ => rfl), true_and]
theorem mm_p24 {x : Int32} {K : ms_S → Prop} : ms_wF (ms_m h M t) h.length 9 24 (.int x) K = K (ms_m h (md_ui M 24 x) t) := by
  unfold ms_wF; rw [ms_fld_of ms_m_0 (show (md_o h.length M)[24]? = some (.int (md_i M 24)) from rfl)]
  show (True ∧ K _) = _
  rw [md_put (M := M) 24 (.int x) (md_ui M 24 x) (fun _ => rfl) (fun _ => rfl), true_and]
theorem mm_r25 {i : Int32} {K : Int64 → Prop} : ms_rL (ms_m h M t) (h.length + 12) i K = (vp_in i 17 ∧ K (md_q M 25 i.toNatClampNeg)) := by
  have e : ms_arr (ms_m h M t) (h.length + 12) = some (1, 17, .inr (.inl (md_q M 25))) := by unfold ms_arr; rw [show (ms_m h M t)[h.length + 12]? = _ from ms_ga h _ 12]; rfl
  unfold ms_rL; rw [e]; rfl
theorem mm_w25 {i : Int32} {x : Int64} {K : ms_S → Prop} : ms_wL (ms_m h M t) (h.length + 12) i x K = (vp_in i 17 ∧ K (ms_m h (md_uq M 25 i.toNatClampNeg x) t)) := by
  have e : ms_arr (ms_m h M t) (h.length + 12) = some (1, 17, .inr (.inl (md_q M 25))) := by unfold ms_arr; rw [show (ms_m h M t)[h.length + 12]? = _ from ms_ga h _ 12]; rfl
  unfold ms_wL; rw [e]
  show (_ ∧ K ((ms_m h M t).set (h.length + 12) _)) = _
  rw [md_set (M := M) 12 (.inl (1, 17, .inr (.inl (vp_updL (md_q M 25) i.toNatClampNeg x)))) (md_uq M 25 i.toNatClampNeg x) (fun _ => rfl) (Nat.le_of_ble_eq_true rfl)]
theorem mm_r26 {i : Int32} {K : Int64 → Prop} : ms_rL (ms_m h M t) (h.length + 13) i K = (vp_in i 400 ∧ K (md_q M 26 i.toNatClampNeg)) := by
  have e : ms_arr (ms_m h M t) (h.length + 13) = some (1, 400, .inr (.inl (md_q M 26))) := by unfold ms_arr; rw [show (ms_m h M t)[h.length + 13]? = _ from ms_ga h _ 13]; rfl
  unfold ms_rL; rw [e]; rfl
theorem mm_w26 {i : Int32} {x : Int64} {K : ms_S → Prop} : ms_wL (ms_m h M t) (h.length + 13) i x K = (vp_in i 400 ∧ K (ms_m h (md_uq M 26 i.toNatClampNeg x) t)) := by
  have e : ms_arr (ms_m h M t) (h.length + 13) = some (1, 400, .inr (.inl (md_q M 26))) := by unfold ms_arr; rw [show (ms_m h M t)[h.length + 13]? = _ from ms_ga h _ 13]; rfl
  unfold ms_wL; rw [e]
  show (_ ∧ K ((ms_m h M t).set (h.length + 13) _)) = _
  rw [md_set (M := M) 13 (.inl (1, 400, .inr (.inl (vp_updL (md_q M 26) i.toNatClampNeg x)))) (md_uq M 26 i.toNatClampNeg x) (fun _ => rfl) (Nat.le_of_ble_eq_true rfl)]
theorem mm_p27 {x : Int32} {K : ms_S → Prop} : ms_wF (ms_m h M t) h.length 9 27 (.int x) K = ((x = 0 ∨ x = 1) ∧ K (ms_m h (md_ui M 27 x) t)) := by
  unfold ms_wF; rw [ms_fld_of ms_m_0 (show (md_o h.length M)[27]? = some (.int (md_i M 27)) from rfl)]
  show ((x = 0 ∨ x = 1) ∧ K _) = _
  rw [md_put (M := M) 27 (.int x) (md_ui M 27 x) (fun _ => rfl) (fun _ => rfl)]
theorem mm_p28 {x : Int64} {K : ms_S → Prop} : ms_wF (ms_m h M t) h.length 9 28 (.long x) K = K (ms_m h (md_ul M 28 x) t) := by
  unfold ms_wF; rw [ms_fld_of ms_m_0 (show (md_o h.length M)[28]? = some (.long (md_l M 28)) from rfl)]
  show (True ∧ K _) = _
  rw [md_put (M := M) 28 (.long x) (md_ul M 28 x) (fun _ => rfl) (fun _ => rfl), true_and]
theorem mm_p29 {x : Int64} {K : ms_S → Prop} : ms_wF (ms_m h M t) h.length 9 29 (.long x) K = K (ms_m h (md_ul M 29 x) t) := by
  unfold ms_wF; rw [ms_fld_of ms_m_0 (show (md_o h.length M)[29]? = some (.long (md_l M 29)) from rfl)]
  show (True ∧ K _) = _
  rw [md_put (M := M) 29 (.long x) (md_ul M 29 x) (fun _ => rfl) (fun _ => rfl), true_and]
theorem mm_p30 {x : Int32} {K : ms_S → Prop} : ms_wF (ms_m h M t) h.length 9 30 (.int x) K = K (ms_m h (md_ui M 30 x) t) := by
  unfold ms_wF; rw [ms_fld_of ms_m_0 (show (md_o h.length M)[30]? = some (.int (md_i M 30)) from rfl)]
  show (True ∧ K _) = _
  rw [md_put (M := M) 30 (.int x) (md_ui M 30 x) (fun _ => rfl) (fun _ => rfl), true_and]
theorem mm_e31 : ms_arr (ms_m h M t) (h.length + 14) = some (0, 9, .inl (md_a M 31)) := by unfold ms_arr; rw [show (ms_m h M t)[h.length + 14]? = _ from ms_ga h _ 14]; rfl
theorem mm_r31 {i : Int32} {K : Int32 → Prop} : ms_rI (ms_m h M t) (h.length + 14) 0 i K = (vp_in i 9 ∧ K (md_a M 31 i.toNatClampNeg)) := by
  unfold ms_rI; rw [mm_e31]; rfl
theorem mm_w31 {i : Int32} {x : Int32} {K : ms_S → Prop} : ms_wI (ms_m h M t) (h.length + 14) i x K = (vp_in i 9 ∧ K (ms_m h (md_ua M 31 i.toNatClampNeg x) t)) := by
  unfold ms_wI; rw [mm_e31]
  show (_ ∧ K ((ms_m h M t).set (h.length + 14) _)) = _
  rw [md_set (M := M) 14 (.inl (0, 9, .inl (upd (md_a M 31) i.toNatClampNeg x))) (md_ua M 31 i.toNatClampNeg x) (fun _ => rfl) (Nat.le_of_ble_eq_true rfl)]
theorem mm_e32 : ms_arr (ms_m h M t) (h.length + 15) = some (0, 9, .inl (md_a M 32)) := by unfold ms_arr; rw [show (ms_m h M t)[h.length + 15]? = _ from ms_ga h _ 15]; rfl
theorem mm_r32 {i : Int32} {K : Int32 → Prop} : ms_rI (ms_m h M t) (h.length + 15) 0 i K = (vp_in i 9 ∧ K (md_a M 32 i.toNatClampNeg)) := by
  unfold ms_rI; rw [mm_e32]; rfl
theorem mm_w32 {i : Int32} {x : Int32} {K : ms_S → Prop} : ms_wI (ms_m h M t) (h.length + 15) i x K = (vp_in i 9 ∧ K (ms_m h (md_ua M 32 i.toNatClampNeg x) t)) := by
  unfold ms_wI; rw [mm_e32]
  show (_ ∧ K ((ms_m h M t).set (h.length + 15) _)) = _
  rw [md_set (M := M) 15 (.inl (0, 9, .inl (upd (md_a M 32) i.toNatClampNeg x))) (md_ua M 32 i.toNatClampNeg x) (fun _ => rfl) (Nat.le_of_ble_eq_true rfl)]
theorem mm_p33 {x : Int32} {K : ms_S → Prop} : ms_wF (ms_m h M t) h.length 9 33 (.int x) K = K (ms_m h (md_ui M 33 x) t) := by
  unfold ms_wF; rw [ms_fld_of ms_m_0 (show (md_o h.length M)[33]? = some (.int (md_i M 33)) from rfl)]
  show (True ∧ K _) = _
  rw [md_put (M := M) 33 (.int x) (md_ui M 33 x) (fun _ => rfl) (fun _ => rfl), true_and]
theorem mm_e34 : ms_arr (ms_m h M t) (h.length + 16) = some (0, 12, .inl (md_a M 34)) := by unfold ms_arr; rw [show (ms_m h M t)[h.length + 16]? = _ from ms_ga h _ 16]; rfl
theorem mm_r34 {i : Int32} {K : Int32 → Prop} : ms_rI (ms_m h M t) (h.length + 16) 0 i K = (vp_in i 12 ∧ K (md_a M 34 i.toNatClampNeg)) := by
  unfold ms_rI; rw [mm_e34]; rfl
theorem mm_w34 {i : Int32} {x : Int32} {K : ms_S → Prop} : ms_wI (ms_m h M t) (h.length + 16) i x K = (vp_in i 12 ∧ K (ms_m h (md_ua M 34 i.toNatClampNeg x) t)) := by
  unfold ms_wI; rw [mm_e34]
  show (_ ∧ K ((ms_m h M t).set (h.length + 16) _)) = _
  rw [md_set (M := M) 16 (.inl (0, 12, .inl (upd (md_a M 34) i.toNatClampNeg x))) (md_ua M 34 i.toNatClampNeg x) (fun _ => rfl) (Nat.le_of_ble_eq_true rfl)]
theorem mm_e35 : ms_arr (ms_m h M t) (h.length + 17) = some (0, 12, .inl (md_a M 35)) := by unfold ms_arr; rw [show (ms_m h M t)[h.length + 17]? = _ from ms_ga h _ 17]; rfl
theorem mm_r35 {i : Int32} {K : Int32 → Prop} : ms_rI (ms_m h M t) (h.length + 17) 0 i K = (vp_in i 12 ∧ K (md_a M 35 i.toNatClampNeg)) := by
  unfold ms_rI; rw [mm_e35]; rfl
theorem mm_w35 {i : Int32} {x : Int32} {K : ms_S → Prop} : ms_wI (ms_m h M t) (h.length + 17) i x K = (vp_in i 12 ∧ K (ms_m h (md_ua M 35 i.toNatClampNeg x) t)) := by
  unfold ms_wI; rw [mm_e35]
  show (_ ∧ K ((ms_m h M t).set (h.length + 17) _)) = _
  rw [md_set (M := M) 17 (.inl (0, 12, .inl (upd (md_a M 35) i.toNatClampNeg x))) (md_ua M 35 i.toNatClampNeg x) (fun _ => rfl) (Nat.le_of_ble_eq_true rfl)]
theorem mm_e36 : ms_arr (ms_m h M t) (h.length + 18) = some (0, 108, .inl (md_a M 36)) := by unfold ms_arr; rw [show (ms_m h M t)[h.length + 18]? = _ from ms_ga h _ 18]; rfl
theorem mm_r36 {i : Int32} {K : Int32 → Prop} : ms_rI (ms_m h M t) (h.length + 18) 0 i K = (vp_in i 108 ∧ K (md_a M 36 i.toNatClampNeg)) := by
  unfold ms_rI; rw [mm_e36]; rfl
theorem mm_w36 {i : Int32} {x : Int32} {K : ms_S → Prop} : ms_wI (ms_m h M t) (h.length + 18) i x K = (vp_in i 108 ∧ K (ms_m h (md_ua M 36 i.toNatClampNeg x) t)) := by
  unfold ms_wI; rw [mm_e36]
  show (_ ∧ K ((ms_m h M t).set (h.length + 18) _)) = _
  rw [md_set (M := M) 18 (.inl (0, 108, .inl (upd (md_a M 36) i.toNatClampNeg x))) (md_ua M 36 i.toNatClampNeg x) (fun _ => rfl) (Nat.le_of_ble_eq_true rfl)]
theorem mm_e37 : ms_arr (ms_m h M t) (h.length + 19) = some (0, 108, .inl (md_a M 37)) := by unfold ms_arr; rw [show (ms_m h M t)[h.length + 19]? = _ from ms_ga h _ 19]; rfl
theorem mm_r37 {i : Int32} {K : Int32 → Prop} : ms_rI (ms_m h M t) (h.length + 19) 0 i K = (vp_in i 108 ∧ K (md_a M 37 i.toNatClampNeg)) := by
  unfold ms_rI; rw [mm_e37]; rfl
theorem mm_w37 {i : Int32} {x : Int32} {K : ms_S → Prop} : ms_wI (ms_m h M t) (h.length + 19) i x K = (vp_in i 108 ∧ K (ms_m h (md_ua M 37 i.toNatClampNeg x) t)) := by
  unfold ms_wI; rw [mm_e37]
  show (_ ∧ K ((ms_m h M t).set (h.length + 19) _)) = _
  rw [md_set (M := M) 19 (.inl (0, 108, .inl (upd (md_a M 37) i.toNatClampNeg x))) (md_ua M 37 i.toNatClampNeg x) (fun _ => rfl) (Nat.le_of_ble_eq_true rfl)]
theorem mm_p38 {x : Int32} {K : ms_S → Prop} : ms_wF (ms_m h M t) h.length 9 38 (.int x) K = K (ms_m h (md_ui M 38 x) t) := by
  unfold ms_wF; rw [ms_fld_of ms_m_0 (show (md_o h.length M)[38]? = some (.int (md_i M 38)) from rfl)]
  show (True ∧ K _) = _
  rw [md_put (M := M) 38 (.int x) (md_ui M 38 x) (fun _ => rfl) (fun _ => rfl), true_and]
theorem mm_p39 {x : Int32} {K : ms_S → Prop} : ms_wF (ms_m h M t) h.length 9 39 (.int x) K = K (ms_m h (md_ui M 39 x) t) := by
  unfold ms_wF; rw [ms_fld_of ms_m_0 (show (md_o h.length M)[39]? = some (.int (md_i M 39)) from rfl)]
  show (True ∧ K _) = _
  rw [md_put (M := M) 39 (.int x) (md_ui M 39 x) (fun _ => rfl) (fun _ => rfl), true_and]
theorem mm_e40 : ms_arr (ms_m h M t) (h.length + 20) = some (0, 120, .inl (md_a M 40)) := by unfold ms_arr; rw [show (ms_m h M t)[h.length + 20]? = _ from ms_ga h _ 20]; rfl
theorem mm_r40 {i : Int32} {K : Int32 → Prop} : ms_rI (ms_m h M t) (h.length + 20) 0 i K = (vp_in i 120 ∧ K (md_a M 40 i.toNatClampNeg)) := by
  unfold ms_rI; rw [mm_e40]; rfl
theorem mm_w40 {i : Int32} {x : Int32} {K : ms_S → Prop} : ms_wI (ms_m h M t) (h.length + 20) i x K = (vp_in i 120 ∧ K (ms_m h (md_ua M 40 i.toNatClampNeg x) t)) := by
  unfold ms_wI; rw [mm_e40]
  show (_ ∧ K ((ms_m h M t).set (h.length + 20) _)) = _
  rw [md_set (M := M) 20 (.inl (0, 120, .inl (upd (md_a M 40) i.toNatClampNeg x))) (md_ua M 40 i.toNatClampNeg x) (fun _ => rfl) (Nat.le_of_ble_eq_true rfl)]
theorem mm_p41 {x : Int32} {K : ms_S → Prop} : ms_wF (ms_m h M t) h.length 9 41 (.int x) K = K (ms_m h (md_ui M 41 x) t) := by
  unfold ms_wF; rw [ms_fld_of ms_m_0 (show (md_o h.length M)[41]? = some (.int (md_i M 41)) from rfl)]
  show (True ∧ K _) = _
  rw [md_put (M := M) 41 (.int x) (md_ui M 41 x) (fun _ => rfl) (fun _ => rfl), true_and]
theorem mm_e42 : ms_arr (ms_m h M t) (h.length + 21) = some (0, 41, .inl (md_a M 42)) := by unfold ms_arr; rw [show (ms_m h M t)[h.length + 21]? = _ from ms_ga h _ 21]; rfl
theorem mm_r42 {i : Int32} {K : Int32 → Prop} : ms_rI (ms_m h M t) (h.length + 21) 0 i K = (vp_in i 41 ∧ K (md_a M 42 i.toNatClampNeg)) := by
  unfold ms_rI; rw [mm_e42]; rfl
theorem mm_w42 {i : Int32} {x : Int32} {K : ms_S → Prop} : ms_wI (ms_m h M t) (h.length + 21) i x K = (vp_in i 41 ∧ K (ms_m h (md_ua M 42 i.toNatClampNeg x) t)) := by
  unfold ms_wI; rw [mm_e42]
  show (_ ∧ K ((ms_m h M t).set (h.length + 21) _)) = _
  rw [md_set (M := M) 21 (.inl (0, 41, .inl (upd (md_a M 42) i.toNatClampNeg x))) (md_ua M 42 i.toNatClampNeg x) (fun _ => rfl) (Nat.le_of_ble_eq_true rfl)]
theorem mm_e43 : ms_arr (ms_m h M t) (h.length + 22) = some (0, 41, .inl (md_a M 43)) := by unfold ms_arr; rw [show (ms_m h M t)[h.length + 22]? = _ from ms_ga h _ 22]; rfl
theorem mm_r43 {i : Int32} {K : Int32 → Prop} : ms_rI (ms_m h M t) (h.length + 22) 0 i K = (vp_in i 41 ∧ K (md_a M 43 i.toNatClampNeg)) := by
  unfold ms_rI; rw [mm_e43]; rfl
theorem mm_w43 {i : Int32} {x : Int32} {K : ms_S → Prop} : ms_wI (ms_m h M t) (h.length + 22) i x K = (vp_in i 41 ∧ K (ms_m h (md_ua M 43 i.toNatClampNeg x) t)) := by
  unfold ms_wI; rw [mm_e43]
  show (_ ∧ K ((ms_m h M t).set (h.length + 22) _)) = _
  rw [md_set (M := M) 22 (.inl (0, 41, .inl (upd (md_a M 43) i.toNatClampNeg x))) (md_ua M 43 i.toNatClampNeg x) (fun _ => rfl) (Nat.le_of_ble_eq_true rfl)]
theorem mm_e44 : ms_arr (ms_m h M t) (h.length + 23) = some (0, 41, .inl (md_a M 44)) := by unfold ms_arr; rw [show (ms_m h M t)[h.length + 23]? = _ from ms_ga h _ 23]; rfl
theorem mm_r44 {i : Int32} {K : Int32 → Prop} : ms_rI (ms_m h M t) (h.length + 23) 0 i K = (vp_in i 41 ∧ K (md_a M 44 i.toNatClampNeg)) := by
  unfold ms_rI; rw [mm_e44]; rfl
theorem mm_w44 {i : Int32} {x : Int32} {K : ms_S → Prop} : ms_wI (ms_m h M t) (h.length + 23) i x K = (vp_in i 41 ∧ K (ms_m h (md_ua M 44 i.toNatClampNeg x) t)) := by
  unfold ms_wI; rw [mm_e44]
  show (_ ∧ K ((ms_m h M t).set (h.length + 23) _)) = _
  rw [md_set (M := M) 23 (.inl (0, 41, .inl (upd (md_a M 44) i.toNatClampNeg x))) (md_ua M 44 i.toNatClampNeg x) (fun _ => rfl) (Nat.le_of_ble_eq_true rfl)]
theorem mm_e45 : ms_arr (ms_m h M t) (h.length + 24) = some (0, 41, .inl (md_a M 45)) := by unfold ms_arr; rw [show (ms_m h M t)[h.length + 24]? = _ from ms_ga h _ 24]; rfl
theorem mm_r45 {i : Int32} {K : Int32 → Prop} : ms_rI (ms_m h M t) (h.length + 24) 0 i K = (vp_in i 41 ∧ K (md_a M 45 i.toNatClampNeg)) := by
  unfold ms_rI; rw [mm_e45]; rfl
theorem mm_w45 {i : Int32} {x : Int32} {K : ms_S → Prop} : ms_wI (ms_m h M t) (h.length + 24) i x K = (vp_in i 41 ∧ K (ms_m h (md_ua M 45 i.toNatClampNeg x) t)) := by
  unfold ms_wI; rw [mm_e45]
  show (_ ∧ K ((ms_m h M t).set (h.length + 24) _)) = _
  rw [md_set (M := M) 24 (.inl (0, 41, .inl (upd (md_a M 45) i.toNatClampNeg x))) (md_ua M 45 i.toNatClampNeg x) (fun _ => rfl) (Nat.le_of_ble_eq_true rfl)]
theorem mm_e46 : ms_arr (ms_m h M t) (h.length + 25) = some (0, 41, .inl (md_a M 46)) := by unfold ms_arr; rw [show (ms_m h M t)[h.length + 25]? = _ from ms_ga h _ 25]; rfl
theorem mm_r46 {i : Int32} {K : Int32 → Prop} : ms_rI (ms_m h M t) (h.length + 25) 0 i K = (vp_in i 41 ∧ K (md_a M 46 i.toNatClampNeg)) := by
  unfold ms_rI; rw [mm_e46]; rfl
theorem mm_w46 {i : Int32} {x : Int32} {K : ms_S → Prop} : ms_wI (ms_m h M t) (h.length + 25) i x K = (vp_in i 41 ∧ K (ms_m h (md_ua M 46 i.toNatClampNeg x) t)) := by
  unfold ms_wI; rw [mm_e46]
  show (_ ∧ K ((ms_m h M t).set (h.length + 25) _)) = _
  rw [md_set (M := M) 25 (.inl (0, 41, .inl (upd (md_a M 46) i.toNatClampNeg x))) (md_ua M 46 i.toNatClampNeg x) (fun _ => rfl) (Nat.le_of_ble_eq_true rfl)]
theorem mm_e47 : ms_arr (ms_m h M t) (h.length + 26) = some (0, 41, .inl (md_a M 47)) := by unfold ms_arr; rw [show (ms_m h M t)[h.length + 26]? = _ from ms_ga h _ 26]; rfl
theorem mm_r47 {i : Int32} {K : Int32 → Prop} : ms_rI (ms_m h M t) (h.length + 26) 0 i K = (vp_in i 41 ∧ K (md_a M 47 i.toNatClampNeg)) := by
  unfold ms_rI; rw [mm_e47]; rfl
theorem mm_w47 {i : Int32} {x : Int32} {K : ms_S → Prop} : ms_wI (ms_m h M t) (h.length + 26) i x K = (vp_in i 41 ∧ K (ms_m h (md_ua M 47 i.toNatClampNeg x) t)) := by
  unfold ms_wI; rw [mm_e47]
  show (_ ∧ K ((ms_m h M t).set (h.length + 26) _)) = _
  rw [md_set (M := M) 26 (.inl (0, 41, .inl (upd (md_a M 47) i.toNatClampNeg x))) (md_ua M 47 i.toNatClampNeg x) (fun _ => rfl) (Nat.le_of_ble_eq_true rfl)]
theorem mm_e48 : ms_arr (ms_m h M t) (h.length + 27) = some (0, 41, .inl (md_a M 48)) := by unfold ms_arr; rw [show (ms_m h M t)[h.length + 27]? = _ from ms_ga h _ 27]; rfl
theorem mm_r48 {i : Int32} {K : Int32 → Prop} : ms_rI (ms_m h M t) (h.length + 27) 0 i K = (vp_in i 41 ∧ K (md_a M 48 i.toNatClampNeg)) := by
  unfold ms_rI; rw [mm_e48]; rfl
theorem mm_w48 {i : Int32} {x : Int32} {K : ms_S → Prop} : ms_wI (ms_m h M t) (h.length + 27) i x K = (vp_in i 41 ∧ K (ms_m h (md_ua M 48 i.toNatClampNeg x) t)) := by
  unfold ms_wI; rw [mm_e48]
  show (_ ∧ K ((ms_m h M t).set (h.length + 27) _)) = _
  rw [md_set (M := M) 27 (.inl (0, 41, .inl (upd (md_a M 48) i.toNatClampNeg x))) (md_ua M 48 i.toNatClampNeg x) (fun _ => rfl) (Nat.le_of_ble_eq_true rfl)]
theorem mm_e49 : ms_arr (ms_m h M t) (h.length + 28) = some (0, 41, .inl (md_a M 49)) := by unfold ms_arr; rw [show (ms_m h M t)[h.length + 28]? = _ from ms_ga h _ 28]; rfl
theorem mm_r49 {i : Int32} {K : Int32 → Prop} : ms_rI (ms_m h M t) (h.length + 28) 0 i K = (vp_in i 41 ∧ K (md_a M 49 i.toNatClampNeg)) := by
  unfold ms_rI; rw [mm_e49]; rfl
theorem mm_w49 {i : Int32} {x : Int32} {K : ms_S → Prop} : ms_wI (ms_m h M t) (h.length + 28) i x K = (vp_in i 41 ∧ K (ms_m h (md_ua M 49 i.toNatClampNeg x) t)) := by
  unfold ms_wI; rw [mm_e49]
  show (_ ∧ K ((ms_m h M t).set (h.length + 28) _)) = _
  rw [md_set (M := M) 28 (.inl (0, 41, .inl (upd (md_a M 49) i.toNatClampNeg x))) (md_ua M 49 i.toNatClampNeg x) (fun _ => rfl) (Nat.le_of_ble_eq_true rfl)]
theorem mm_p50 {x : Int64} {K : ms_S → Prop} : ms_wF (ms_m h M t) h.length 9 50 (.long x) K = K (ms_m h (md_ul M 50 x) t) := by
  unfold ms_wF; rw [ms_fld_of ms_m_0 (show (md_o h.length M)[50]? = some (.long (md_l M 50)) from rfl)]
  show (True ∧ K _) = _
  rw [md_put (M := M) 50 (.long x) (md_ul M 50 x) (fun _ => rfl) (fun _ => rfl), true_and]
theorem mm_e51 : ms_arr (ms_m h M t) (h.length + 29) = some (0, 64, .inl (md_a M 51)) := by unfold ms_arr; rw [show (ms_m h M t)[h.length + 29]? = _ from ms_ga h _ 29]; rfl
theorem mm_r51 {i : Int32} {K : Int32 → Prop} : ms_rI (ms_m h M t) (h.length + 29) 0 i K = (vp_in i 64 ∧ K (md_a M 51 i.toNatClampNeg)) := by
  unfold ms_rI; rw [mm_e51]; rfl
theorem mm_w51 {i : Int32} {x : Int32} {K : ms_S → Prop} : ms_wI (ms_m h M t) (h.length + 29) i x K = (vp_in i 64 ∧ K (ms_m h (md_ua M 51 i.toNatClampNeg x) t)) := by
  unfold ms_wI; rw [mm_e51]
  show (_ ∧ K ((ms_m h M t).set (h.length + 29) _)) = _
  rw [md_set (M := M) 29 (.inl (0, 64, .inl (upd (md_a M 51) i.toNatClampNeg x))) (md_ua M 51 i.toNatClampNeg x) (fun _ => rfl) (Nat.le_of_ble_eq_true rfl)]
end Md
