/-! CONTRACTS: the constructors of the class -/
theorem ms_tot_app2 (a b : ms_S) : ms_tot (a ++ b) = ms_tot a + ms_tot b := by
  induction a with
  | nil => simp [ms_tot]
  | cons x r ih => simp [ms_tot, ih, Nat.add_assoc]
theorem ms_ga (h t : ms_S) (k : Nat) : (h ++ t)[h.length + k]? = t[k]? := by
  rw [List.getElem?_append_right (by omega)]
  congr 1
  omega
theorem ms_g0 (h t : ms_S) : (h ++ t)[h.length]? = t[0]? := ms_ga h t 0
theorem ms_s0 (h t : ms_S) (c : ms_C) : (h ++ t).set h.length c = h ++ t.set 0 c := by
  rw [List.set_append_right _ _ (by omega)]
  congr 2
  omega
section Ct
variable {h r : ms_S} {fs : List Value} {ci j : Nat}
theorem ms_ctW {v : Value} {K : ms_S → Prop} (hj : j < fs.length) (hv : ms_okv (ms_ty ci j) v) (k : K (h ++ .inr (ci, fs.set j v) :: r)) : ms_wF (h ++ .inr (ci, fs) :: r) h.length ci j v K := by
  refine ms_wF_i (fs := fs) (v0 := fs[j]) (ms_g0 h _) (List.getElem?_eq_getElem hj) hv ?_
  rw [ms_s0]
  exact k
theorem ms_ctI {n : Int32} {K : ms_S → Prop} (hn : ¬ n < 0) (hn2 : n.toNatClampNeg ≤ 60000000) (hj : j < fs.length) (hv : ∀ a, ms_okv (ms_ty ci j) (.ref a)) (k : K (h ++ .inr (ci, fs.set j (.ref (h.length + (r.length + 1)))) :: (r ++ [.inl (0, n.toNatClampNeg, .inl fun _ => 0)]))) : ms_nI (h ++ .inr (ci, fs) :: r) n fun a g1 => ms_wF g1 h.length ci j (.ref a) K := by
  refine ⟨hn, hn2, ?_⟩
  rw [List.append_assoc, List.cons_append]
  refine ms_ctW hj (hv _) ?_
  rw [show (h ++ .inr (ci, fs) :: r).length = h.length + (r.length + 1) by simp]
  exact k
theorem ms_ctZ {n : Int32} {K : ms_S → Prop} (hn : ¬ n < 0) (hn2 : n.toNatClampNeg ≤ 60000000) (hj : j < fs.length) (hv : ∀ a, ms_okv (ms_ty ci j) (.ref a)) (k : K (h ++ .inr (ci, fs.set j (.ref (h.length + (r.length + 1)))) :: (r ++ [.inl (2, n.toNatClampNeg, .inl fun _ => 0)]))) : ms_nZ (h ++ .inr (ci, fs) :: r) n fun a g1 => ms_wF g1 h.length ci j (.ref a) K := by
  refine ⟨hn, hn2, ?_⟩
  rw [List.append_assoc, List.cons_append]
  refine ms_ctW hj (hv _) ?_
  rw [show (h ++ .inr (ci, fs) :: r).length = h.length + (r.length + 1) by simp]
  exact k
theorem ms_ctL {n : Int32} {K : ms_S → Prop} (hn : ¬ n < 0) (hn2 : n.toNatClampNeg ≤ 60000000) (hj : j < fs.length) (hv : ∀ a, ms_okv (ms_ty ci j) (.ref a)) (k : K (h ++ .inr (ci, fs.set j (.ref (h.length + (r.length + 1)))) :: (r ++ [.inl (1, n.toNatClampNeg, .inr (.inl fun _ => 0))]))) : ms_nL (h ++ .inr (ci, fs) :: r) n fun a g1 => ms_wF g1 h.length ci j (.ref a) K := by
  refine ⟨hn, hn2, ?_⟩
  rw [List.append_assoc, List.cons_append]
  refine ms_ctW hj (hv _) ?_
  rw [show (h ++ .inr (ci, fs) :: r).length = h.length + (r.length + 1) by simp]
  exact k
theorem ms_ctQ {t : Nat} {n : Int32} {K : ms_S → Prop} (hn : ¬ n < 0) (hn2 : n.toNatClampNeg ≤ 60000000) (hj : j < fs.length) (hv : ∀ a, ms_okv (ms_ty ci j) (.ref a)) (k : K (h ++ .inr (ci, fs.set j (.ref (h.length + (r.length + 1)))) :: (r ++ [.inl (t, n.toNatClampNeg, .inr (.inr fun _ => none))]))) : ms_nQ (h ++ .inr (ci, fs) :: r) t n fun a g1 => ms_wF g1 h.length ci j (.ref a) K := by
  refine ⟨hn, hn2, ?_⟩
  rw [List.append_assoc, List.cons_append]
  refine ms_ctW hj (hv _) ?_
  rw [show (h ++ .inr (ci, fs) :: r).length = h.length + (r.length + 1) by simp]
  exact k
end Ct
theorem ms_ltot {h a b : ms_S} (k : ms_tot a ≤ ms_tot b) : ms_tot (h ++ a) ≤ ms_tot (h ++ b) := by rw [ms_tot_app2, ms_tot_app2]; omega
theorem ms_llen {h a b : ms_S} (k : a.length ≤ b.length) : (h ++ a).length ≤ (h ++ b).length := by rw [List.length_append, List.length_append]; omega
abbrev ms_z : Nat → Int32 := fun _ => 0
def bk_0 : bk_T := (0, 0, 0, 0, ms_z, ms_z, ms_z, ms_z, fun _ => none)
def ct_bk (n : Nat) (B : bk_T) : ms_S := [.inr (0, bk_o n B), .inl (0, 48, .inl (bk_th B)), .inl (0, 64, .inl (bk_pa B)), .inl (0, 192, .inl (bk_li B)), .inl (0, 960, .inl (bk_en B)), .inl (3, 20, .inr (.inr (bk_tx B)))]
def ct_tp (n : Nat) : ms_S := [.inr (6, [.ref (n + 1), .int 0]), .inl (0, 400, .inl ms_z)]
def ct_rd (n t : Nat) : ms_S := [.inr (5, [.ref t, .ref (n + 1), .ref (n + 2), .int 0, .int 0, .int 0, .int 0, .int 0, .int 0, .int 0]), .inl (0, 800, .inl ms_z), .inl (0, 48, .inl ms_z)]
def ct_lw (n : Nat) : ms_S := [.inr (2, [.ref (n + 1), .ref (n + 2), .long 0]), .inl (0, 12, .inl ms_z), .inl (1, 52, .inr (.inl fun _ => 0))]
def ct_ch (n l : Nat) : ms_S := [.inr (1, [.ref l, .null, .int 0, .int 0, .int 0, .ref (n + 1), .ref (n + 2), .ref (n + 3), .ref (n + 4), .ref (n + 5), .ref (n + 6), .ref (n + 7), .ref (n + 8), .int 0, .int 0]), .inl (0, 9, .inl ms_z), .inl (0, 12, .inl ms_z), .inl (2, 12, .inl ms_z), .inl (0, 108, .inl ms_z), .inl (0, 108, .inl ms_z), .inl (0, 120, .inl ms_z), .inl (0, 10, .inl ms_z), .inl (0, 12, .inl ms_z)]
def ct_le (n b l c : Nat) : ms_S := [.inr (3, [.ref b, .ref l, .ref c, .ref (n + 1), .ref (n + 2), .ref (n + 3), .ref (n + 4), .ref (n + 5), .ref (n + 6), .ref (n + 7), .ref (n + 8)]), .inl (0, 16, .inl (ms_fill ms_z 16 (-1))), .inl (0, 16, .inl (ms_fill ms_z 16 (-1))), .inl (0, 16, .inl (ms_fill ms_z 16 (-1))), .inl (0, 16, .inl ms_z), .inl (0, 16, .inl ms_z), .inl (0, 120, .inl ms_z), .inl (0, 208, .inl ms_z), .inl (0, 121, .inl ms_z)]
def ct_mk (n : Nat) : ms_S := .inr (4, [.ref (n + 1), .ref (n + 7), .int 0, .int 0]) :: (ct_bk (n + 1) bk_0 ++ [.inl (0, 120, .inl ms_z)])
section Ctors
variable {d : Nat} {h : ms_S} {a b l : Nat}
set_option maxRecDepth 4000 in
theorem c_Book_init : ms_Cl (d + 1) 0 [.ref h.length] (h ++ [.inr (0, ms_blank 0)]) none (h ++ ct_bk h.length bk_0) := by
  refine m_X0_init (ms_llen (Nat.le_of_ble_eq_true rfl)) (ms_ltot (Nat.le_of_ble_eq_true rfl)) ?_
  refine b_X0_init_0 (ms_ctI (by decide) (by decide) (Nat.le_of_ble_eq_true rfl) (fun _ => trivial) ?_)
  refine b_X0_init_12 (ms_ctI (by decide) (by decide) (Nat.le_of_ble_eq_true rfl) (fun _ => trivial) ?_)
  refine b_X0_init_20 (ms_ctI (by decide) (by decide) (Nat.le_of_ble_eq_true rfl) (fun _ => trivial) ?_)
  refine b_X0_init_29 (ms_ctI (by decide) (by decide) (Nat.le_of_ble_eq_true rfl) (fun _ => trivial) ?_)
  refine b_X0_init_38 (ms_ctQ (by decide) (by decide) (Nat.le_of_ble_eq_true rfl) (fun _ => trivial) ?_)
  exact b_X0_init_47 ⟨rfl, rfl⟩
theorem c_Tape_init : ms_Cl (d + 1) 91 [.ref h.length] (h ++ [.inr (6, ms_blank 6)]) none (h ++ ct_tp h.length) := by
  refine m_X6_init (ms_llen (Nat.le_of_ble_eq_true rfl)) (ms_ltot (Nat.le_of_ble_eq_true rfl)) ?_
  refine b_X6_init_0 (ms_ctI (by decide) (by decide) (Nat.le_of_ble_eq_true rfl) (fun _ => trivial) ?_)
  exact b_X6_init_13 ⟨rfl, rfl⟩
theorem c_Reader_init : ms_Cl (d + 1) 70 [.ref h.length, .ref a] (h ++ [.inr (5, ms_blank 5)]) none (h ++ ct_rd h.length a) := by
  refine m_X5_init (ms_llen (Nat.le_of_ble_eq_true rfl)) (ms_ltot (Nat.le_of_ble_eq_true rfl)) ?_
  refine b_X5_init_0 (ms_ctI (by decide) (by decide) (Nat.le_of_ble_eq_true rfl) (fun _ => trivial) ?_)
  refine b_X5_init_13 (ms_ctI (by decide) (by decide) (Nat.le_of_ble_eq_true rfl) (fun _ => trivial) ?_)
  exact b_X5_init_21 (ms_ctW (Nat.le_of_ble_eq_true rfl) trivial ⟨rfl, rfl⟩)
theorem c_Laws_init : ms_Cl (d + 1) 37 [.ref h.length] (h ++ [.inr (2, ms_blank 2)]) none (h ++ ct_lw h.length) := by
  refine m_X2_init (ms_llen (Nat.le_of_ble_eq_true rfl)) (ms_ltot (Nat.le_of_ble_eq_true rfl)) ?_
  refine b_X2_init_0 (ms_ctI (by decide) (by decide) (Nat.le_of_ble_eq_true rfl) (fun _ => trivial) ?_)
  refine b_X2_init_12 (ms_ctL (by decide) (by decide) (Nat.le_of_ble_eq_true rfl) (fun _ => trivial) ?_)
  exact b_X2_init_20 ⟨rfl, rfl⟩
set_option maxRecDepth 4000 in
theorem c_Chooser_init : ms_Cl (d + 1) 24 [.ref h.length, .ref a] (h ++ [.inr (1, ms_blank 1)]) none (h ++ ct_ch h.length a) := by
  refine m_X1_init (ms_llen (Nat.le_of_ble_eq_true rfl)) (ms_ltot (Nat.le_of_ble_eq_true rfl)) ?_
  refine b_X1_init_0 (ms_ctI (by decide) (by decide) (Nat.le_of_ble_eq_true rfl) (fun _ => trivial) ?_)
  refine b_X1_init_12 (ms_ctI (by decide) (by decide) (Nat.le_of_ble_eq_true rfl) (fun _ => trivial) ?_)
  refine b_X1_init_20 (ms_ctZ (by decide) (by decide) (Nat.le_of_ble_eq_true rfl) (fun _ => trivial) ?_)
  refine b_X1_init_28 (ms_ctI (by decide) (by decide) (Nat.le_of_ble_eq_true rfl) (fun _ => trivial) ?_)
  refine b_X1_init_36 (ms_ctI (by decide) (by decide) (Nat.le_of_ble_eq_true rfl) (fun _ => trivial) ?_)
  refine b_X1_init_44 (ms_ctI (by decide) (by decide) (Nat.le_of_ble_eq_true rfl) (fun _ => trivial) ?_)
  refine b_X1_init_52 (ms_ctI (by decide) (by decide) (Nat.le_of_ble_eq_true rfl) (fun _ => trivial) ?_)
  refine b_X1_init_60 (ms_ctI (by decide) (by decide) (Nat.le_of_ble_eq_true rfl) (fun _ => trivial) ?_)
  exact b_X1_init_68 (ms_ctW (Nat.le_of_ble_eq_true rfl) trivial ⟨rfl, rfl⟩)
end Ctors
